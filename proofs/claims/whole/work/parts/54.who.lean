/-! who -/
theorem zWF.s7 {g : zH} (w : zWF g) {e v : Nat} (he : e < 6) (hv : 1 ≤ v ∧ v ≤ 5) : zWF (va_up g (7 + e) v) := by
  have n : ∀ j, j ≠ 7 + e → va_up g (7 + e) v j = g j := fun j hj => zup_ne hj
  obtain ⟨c0, c1, c2, c3, c4, c5, c6, c7, c8⟩ := w
  refine ⟨by rw [n _ (by omega)]; exact c0, by rw [n _ (by omega)]; exact c1, by rw [n _ (by omega)]; exact c2, by rw [n _ (by omega)]; exact c3, by rw [n _ (by omega)]; exact c4, by rw [n _ (by omega), n _ (by omega)]; exact c5, by rw [n _ (by omega)]; exact c6, by rw [n _ (by omega)]; exact c7, fun e' he' => ?_⟩
  rw [n _ (by omega)] at he'
  obtain ⟨d1, d2⟩ := c8 e' he'
  rw [n 1 (by omega), n (13 + e') (by omega), n (19 + e') (by omega), n (25 + e') (by omega), n (31 + e') (by omega)]
  refine ⟨?_, d2⟩
  by_cases z : e' = e
  · subst z; rw [zup_eq]; exact hv
  · rw [n _ (by omega)]; exact d1
/-- which number is supposed -/
def zsi (b e : Nat) : Nat := if b = 0 then 7 + e else if b = 1 then 4 else if b = 2 then 31 + e else 3
def zab (w : Nat) : Nat := if w < 2 then w else w / 2 + 1
def zlo (b : Nat) : Nat := if b = 0 then 1 else if b = 3 then 1 else 0
def zhi (g : zH) (b : Nat) : Nat := if b = 0 then 5 else if b = 1 then g 1 - 1 else if b = 2 then 60 else 40
/-- whether the heats are as told for m minutes from i on: 1, 0 -/
def zso (e : Nat) (it : Nat → Int32) : Nat → Nat → zH → Nat
  | 0, _, _ => 1
  | m + 1, i, g => if nI (zpass (fun e => e) g (31 + e)) = it i then zso e it m (i + 1) (zpass (fun e => e) g) else 0
theorem zso_le (e : Nat) (it : Nat → Int32) : ∀ m i g, zso e it m i g ≤ 1
  | 0, _, _ => Nat.le_refl _
  | m + 1, i, g => by
    unfold zso
    split
    · exact zso_le e it m _ _
    · omega
def zwb (P : Nat → Nat) (lo : Nat) : Nat → Int32
  | 0 => nI 0
  | m + 1 => zwb P lo m ||| (if P (lo + m) = 0 then nI 0 else nI 1 <<< (nI (lo + m) &&& 31))
def zwn (P : Nat → Nat) (lo : Nat) : Nat → Nat
  | 0 => 0
  | m + 1 => zwn P lo m + (if P (lo + m) = 0 then 0 else 1)
def zwl (P : Nat → Nat) (lo : Nat) : Nat → Int32
  | 0 => -(nI 1000000)
  | m + 1 => if P (lo + m) = 0 then zwl P lo m else if zwn P lo m = 0 then nI (lo + m) else zwl P lo m
theorem zwn_le (P : Nat → Nat) (lo : Nat) : ∀ m, zwn P lo m ≤ m
  | 0 => Nat.le_refl _
  | m + 1 => by have := zwn_le P lo m; unfold zwn; split <;> omega
def zwP (g : zH) (e b : Nat) (it : Nat → Int32) (n v : Nat) : Nat := zso e it n 0 (va_up g (zsi b e) v)
def zwhoA (g : zH) (e w : Nat) (it : Nat → Int32) (n : Nat) : Int32 :=
  if w < 2 then zwb (zwP g e (zab w) it n) (zlo (zab w)) (zhi g (zab w) + 1 - zlo (zab w))
  else if w % 2 = 0 then nI (zwn (zwP g e (zab w) it n) (zlo (zab w)) (zhi g (zab w) + 1 - zlo (zab w)))
  else zwl (zwP g e (zab w) it n) (zlo (zab w)) (zhi g (zab w) + 1 - zlo (zab w))
theorem zsup_wf {g : zH} (wf : zWF g) {b e v : Nat} (hb : b ≤ 3) (he : e < g 0) (h1 : zlo b ≤ v) (h2 : v ≤ zhi g b) : zWF (va_up g (zsi b e) v) := by
  have w0 := wf.1
  have w1 := wf.2.1
  unfold zlo at h1
  unfold zhi at h2
  unfold zsi
  rcases (by omega : b = 0 ∨ b = 1 ∨ b = 2 ∨ b = 3) with z | z | z | z <;> subst z
  · exact wf.s7 (by omega) ⟨h1, h2⟩
  · exact wf.s4 (by have h2 : v ≤ g 1 - 1 := h2; omega)
  · exact wf.sHt (by omega) h2
  · exact wf.s3 ⟨h1, h2⟩
theorem zsi_le {b e : Nat} (he : e < 6) : 3 ≤ zsi b e ∧ zsi b e < 37 ∧ zsi b e ≠ 6 := by
  unfold zsi
  split
  · omega
  · split
    · omega
    · split <;> omega
section WO
variable {X d : Nat} {mem : zMem} {lk : zLk} {L : List Nat} {Q : Option Value → zMem → Prop} {g : zH} {rl rn : Nat → Nat} {ri : Nat → Int32}
theorem isTold_loop {e r a n : Nat} {it : Nat → Int32} (hd : 3 < d) (hk : zKs lk) (hh : zHo lk 10128) (hr : r < 8) (ha : a + n ≤ 40) : ∀ m i g mem, i + m = n → zHB mem 10128 g → zWF g → e < g 0 → g 6 + m ≤ 999999 → zSt mem → (∀ j, j < n → mem (200 + 40 * r + (a + j)) = it j) → (∀ mem', zfr mem mem' 10128 → Q (some (.int (nI (zso e it m i g)))) mem') → zE X d 32 3 [.ref 710, .int (nI e), .ref (200 + 40 * r), .int (nI a), .int (nI n), .int (nI i)] [] mem lk L lk L Q := by
  intro m
  induction m with
  | zero =>
    intro i g mem hi hb wf he h6 hS hit q
    have c1 : nI n ≤ nI i := by rw [nLe (by omega) (by omega)]; omega
    refine zE_do 60 3 (tbl := tX2_isTold) zck_32 rfl (h := ?_)
    exact ⟨fun _ => ⟨rfl, rfl, rfl, q mem zfr.rf⟩, fun c => absurd c1 c⟩
  | succ m ih =>
    intro i g mem hi hb wf he h6 hS hit q
    have w0 := wf.1
    have c1 : ¬ nI n ≤ nI i := by rw [nLe (by omega) (by omega)]; omega
    have c2 : ¬ nI (ln X (200 + 40 * r)) ≤ nI a + nI i := by rw [ln_item hr, nI_add, nLe (by omega) (by omega)]; omega
    have hin : vp_in (nI a + nI i) (ln X (200 + 40 * r)) := by rw [ln_item hr, nI_add]; exact vp_in_nI (by omega) (by decide)
    have wp := zpass_wf (ord := fun e => e) wf (by omega)
    have h61 : zpass (fun e => e) g 6 = g 6 + 1 := zpass_6 wf.1
    have h01 : zpass (fun e => e) g 0 = g 0 := zpass_ne wf.1 (by omega) (by omega) (by omega) (by omega)
    unfold zso at q
    refine zE_do 60 3 (tbl := tX2_isTold) zck_32 rfl (h := ?_)
    refine ⟨fun c => absurd c c1, fun _ => ⟨by rw [kd_item hr]; decide, fun c => absurd c c2, fun _ => ⟨rfl, _, hk.at 710 10128, by rw [hh.k3]; rfl, ok_pass (by omega) hh hb wf (by omega) (hS.ord (by omega)) (fun m2 hb2 f2 => ⟨rfl, _, hk.at 710 10128, hh.k3, _, hh.lk 4 (by omega), Or.inl (hh.ka 4 (by omega)), hh.inn (by omega), Or.inl (kd_item hr), hin, fun c => ?_, fun c => ⟨rfl, rfl, rfl, ?_⟩⟩)⟩⟩⟩
    all_goals have eh : m2 (10128 + (7 + 6 * 4) + (nI e).toNatClampNeg) = nI (zpass (fun e => e) g (31 + e)) := by rw [nC (by omega)]; exact hb2.ht (by omega)
    all_goals have ei : m2 (200 + 40 * r + (nI a + nI i).toNatClampNeg) = it i := by rw [nI_add, nC (by omega), f2 _ (by omega)]; exact hit i (by omega)
    · have c : m2 (10128 + (7 + 6 * 4) + (nI e).toNatClampNeg) = m2 (200 + 40 * r + (nI a + nI i).toNatClampNeg) := c
      rw [eh, ei] at c
      rw [if_pos c] at q
      have k := ih (i + 1) _ m2 (by omega) hb2 wp (by omega) (by omega) (hS.fr f2 (Or.inl (by omega))) (fun j hj => by rw [f2 _ (by omega)]; exact hit j hj) (fun m3 f3 => q m3 (f2.tr f3))
      rw [show nI (i + 1) = nI i + nI 1 from (nI_add i 1).symm] at k
      exact k
    · have c : ¬ m2 (10128 + (7 + 6 * 4) + (nI e).toNatClampNeg) = m2 (200 + 40 * r + (nI a + nI i).toNatClampNeg) := c
      rw [eh, ei] at c
      rw [if_neg c] at q
      exact q m2 f2
theorem ok_isTold {e r a n : Nat} {it : Nat → Int32} (hd : 3 < d) (hk : zKs lk) (hh : zHo lk 10128) (hr : r < 8) (ha : a + n ≤ 40) (hb : zHB mem 10128 g) (wf : zWF g) (he : e < g 0) (h6 : g 6 + n ≤ 999999) (hS : zSt mem) (hit : ∀ j, j < n → mem (200 + 40 * r + (a + j)) = it j) (q : ∀ mem', zfr mem mem' 10128 → Q (some (.int (nI (zso e it n 0 g)))) mem') : zOk X d 32 [.ref 710, .int (nI e), .ref (200 + 40 * r), .int (nI a), .int (nI n)] mem lk L lk L Q := by
  refine zOk_do 20 (tbl := tX2_isTold) zck_32 rfl (by omega) (h := ?_)
  exact isTold_loop hd hk hh hr ha n 0 g mem (by omega) hb wf he h6 hS hit q
theorem ok_lastOf {b : Nat} (hd : 0 < d) (ho : zHo lk 10000) (hb : zHB mem 10000 g) (wf : zWF g) (hab : b ≤ 3) (q : Q (some (.int (nI (zhi g b)))) mem) : zOk X d 30 [.ref 10000, .int (nI b)] mem lk L lk L Q := by
  have w1 := wf.2.1
  have w9 := wf.2.2.1
  have e1 : mem (10000 + 1) - nI 1 = nI (g 1 - 1) := by rw [hb.k 1 (by omega), nsub (by omega) (by omega)]
  unfold zhi at q
  refine zOk_do 40 (tbl := tX2_lastOf) zck_30 rfl (by omega) (h := ?_)
  refine ⟨fun c => ⟨rfl, rfl, ?_⟩, fun c0 => ⟨fun c => ⟨ho.k3, rfl, rfl, ?_⟩, fun c1 => ⟨fun c => ⟨rfl, rfl, ?_⟩, fun c2 => ⟨rfl, rfl, ?_⟩⟩⟩⟩
  · have c : nI b = nI 0 := c
    rw [nEq (by omega) (by omega)] at c
    rw [if_pos c] at q
    exact q
  · have c0 : ¬ nI b = nI 0 := c0
    have c : nI b = nI 1 := c
    rw [nEq (by omega) (by omega)] at c c0
    rw [if_neg c0, if_pos c, ← e1] at q
    exact q
  · have c0 : ¬ nI b = nI 0 := c0
    have c1 : ¬ nI b = nI 1 := c1
    have c : nI b = nI 2 := c
    rw [nEq (by omega) (by omega)] at c c0 c1
    rw [if_neg c0, if_neg c1, if_pos c] at q
    exact q
  · have c0 : ¬ nI b = nI 0 := c0
    have c1 : ¬ nI b = nI 1 := c1
    have c2 : ¬ nI b = nI 2 := c2
    rw [nEq (by omega) (by omega)] at c2 c0 c1
    rw [if_neg c0, if_neg c1, if_neg c2] at q
    exact q
theorem ok_lastOf' {x : Int32} {b : Nat} (e : x = nI b) (hd : 0 < d) (ho : zHo lk 10000) (hb : zHB mem 10000 g) (wf : zWF g) (hab : b ≤ 3) (q : Q (some (.int (nI (zhi g b)))) mem) : zOk X d 30 [.ref 10000, .int x] mem lk L lk L Q := by
  subst e
  exact ok_lastOf hd ho hb wf hab q
theorem ok_suppose {b e v : Nat} (hd : 2 < d) (hk : zKs lk) (hh : zHo lk 10128) (ho : zHo lk 10000) (hb : zHB mem 10000 g) (h6 : g 0 ≤ 6) (he : e < g 0) (hab : b ≤ 3) (q : ∀ mem', zHB mem' 10128 (va_up g (zsi b e) v) → zfr mem mem' 10128 → Q none mem') : zOk X d 31 [.ref 710, .ref 10000, .int (nI b), .int (nI e), .int (nI v)] mem lk L lk L Q := by
  unfold zsi at q
  refine zOk_do 60 (tbl := tX2_suppose) zck_31 rfl (by omega) (h := ?_)
  refine ⟨rfl, _, hk.at 710 10128, by rw [hh.k3]; rfl, ok_become (by omega) hh ho (by omega) hb h6 (fun m1 hb1 f1 => ⟨fun c => ⟨rfl, _, hk.at 710 10128, hh.k3, _, hh.lk 0 (by omega), hh.ka 0 (by omega), hh.inn (by omega), rfl, rfl, ?_⟩, fun c0 => ⟨fun c => ⟨rfl, _, hk.at 710 10128, hh.k3, rfl, rfl, ?_⟩, fun c1 => ⟨fun c => ⟨rfl, _, hk.at 710 10128, hh.k3, _, hh.lk 4 (by omega), hh.ka 4 (by omega), hh.inn (by omega), rfl, rfl, ?_⟩, fun c2 => ⟨rfl, _, hk.at 710 10128, hh.k3, rfl, rfl, ?_⟩⟩⟩⟩)⟩
  · have c : nI b = nI 0 := c
    rw [nEq (by omega) (by omega)] at c
    rw [if_pos c] at q
    have ea : 10128 + (7 + 6 * 0) + (nI e).toNatClampNeg = 10128 + (7 + e) := by rw [nC (by omega)]; omega
    exact q _ (hb1.set (7 + e) v (by omega) ea) (f1.tr (zfr.up (by omega) (by omega)))
  · have c0 : ¬ nI b = nI 0 := c0
    have c : nI b = nI 1 := c
    rw [nEq (by omega) (by omega)] at c c0
    rw [if_neg c0, if_pos c] at q
    exact q _ (hb1.set 4 v (by omega) rfl) (f1.tr (zfr.up (by omega) (by omega)))
  · have c0 : ¬ nI b = nI 0 := c0
    have c1 : ¬ nI b = nI 1 := c1
    have c : nI b = nI 2 := c
    rw [nEq (by omega) (by omega)] at c c0 c1
    rw [if_neg c0, if_neg c1, if_pos c] at q
    have ea : 10128 + (7 + 6 * 4) + (nI e).toNatClampNeg = 10128 + (31 + e) := by rw [nC (by omega)]; omega
    exact q _ (hb1.set (31 + e) v (by omega) ea) (f1.tr (zfr.up (by omega) (by omega)))
  · have c0 : ¬ nI b = nI 0 := c0
    have c1 : ¬ nI b = nI 1 := c1
    have c2 : ¬ nI b = nI 2 := c2
    rw [nEq (by omega) (by omega)] at c2 c0 c1
    rw [if_neg c0, if_neg c1, if_neg c2] at q
    exact q _ (hb1.set 3 v (by omega) rfl) (f1.tr (zfr.up (by omega) (by omega)))
theorem fits_loop {e w r a n b lo hi : Nat} {it : Nat → Int32} (hw5 : w ≤ 5) (hbw : b = zab w) (hlo : lo = zlo b) (hhi : hi = zhi g b) (hd : 4 < d) (hk : zKs lk) (hh : zHo lk 10128) (ho : zHo lk 10000) (wf : zWF g) (he : e < g 0) (h6 : g 6 ≤ 999) (hr : r < 8) (ha : a + n ≤ 40) : ∀ m j mem bs, lo + j + m = hi + 1 → zHB mem 10000 g → zSt mem → (∀ j, j < n → mem (200 + 40 * r + (a + j)) = it j) → (w < 2 → bs = zwb (zwP g e b it n) lo j) → (∀ mem', zfr mem mem' 10128 → Q (some (.int (zwhoA g e w it n))) mem') → zE X d 29 52 [.ref 710, .ref 10000, .int (nI e), .int (nI w), .ref (200 + 40 * r), .int (nI a), .int (nI n), .int (nI b), .int bs, .int (nI (zwn (zwP g e b it n) lo j)), .int (zwl (zwP g e b it n) lo j), .int (nI hi), .int (nI (lo + j))] [] mem lk L lk L Q := by
  have w0 := wf.1
  have w9 := wf.2.2.1
  have hb3 : b ≤ 3 := by rw [hbw]; unfold zab; split <;> omega
  have hb2 : b < 2 ↔ w < 2 := by rw [hbw]; unfold zab; split <;> omega
  have hh60 : hi ≤ 60 := by
    rw [hhi]; unfold zhi
    split
    · omega
    · split
      · omega
      · split <;> omega
  intro m
  induction m with
  | zero =>
    intro j mem bs hj hb hS hit hbs q
    have c1 : nI hi < nI (lo + j) := by rw [nLt (by omega) (by omega)]; omega
    have ej : j = zhi g b + 1 - zlo b := by omega
    have hn := zwn_le (zwP g e b it n) lo j
    unfold zwhoA at q
    rw [← hbw, ← ej, ← hlo] at q
    refine zE_do 60 52 (tbl := tX2_allThatFits) zck_29 rfl (h := ?_)
    refine ⟨fun _ => ⟨fun c => ⟨by decide, fun c2 => ⟨rfl, rfl, ?_⟩, fun c2 => ⟨rfl, rfl, ?_⟩⟩, fun c => ⟨rfl, rfl, ?_⟩⟩, fun c => absurd c1 c⟩
    · have c : nI 2 ≤ nI w := c
      have c2 : ¬ nI w - nI w / nI 2 * nI 2 = 0 := c2
      rw [nLe (by omega) (by omega)] at c
      rw [nrem (by omega) (by omega) (by omega), n0 (by omega)] at c2
      rw [if_neg (by omega), if_neg c2] at q
      exact q mem zfr.rf
    · have c : nI 2 ≤ nI w := c
      have c2 : nI w - nI w / nI 2 * nI 2 = 0 := c2
      rw [nLe (by omega) (by omega)] at c
      rw [nrem (by omega) (by omega) (by omega), n0 (by omega)] at c2
      rw [if_neg (by omega), if_pos c2] at q
      exact q mem zfr.rf
    · have c : ¬ nI 2 ≤ nI w := c
      rw [nLe (by omega) (by omega)] at c
      rw [if_pos (by omega), ← hbs (by omega)] at q
      exact q mem zfr.rf
  | succ m ih =>
    intro j mem bs hj hb hS hit hbs q
    have c1 : ¬ nI hi < nI (lo + j) := by rw [nLt (by omega) (by omega)]; omega
    have ws := zsup_wf wf hb3 he (v := lo + j) (by omega) (by omega)
    have hsi := zsi_le (b := b) (e := e) (by omega)
    have e6 : va_up g (zsi b e) (lo + j) 6 = g 6 := zup_ne (by omega)
    have e0 : va_up g (zsi b e) (lo + j) 0 = g 0 := zup_ne (by omega)
    have hP : zwP g e b it n (lo + j) ≤ 1 := zso_le _ _ _ _ _
    have hn := zwn_le (zwP g e b it n) lo j
    refine zE_do 60 52 (tbl := tX2_allThatFits) zck_29 rfl (h := ?_)
    refine ⟨fun c => absurd c c1, fun _ => ⟨rfl, ok_suppose (by omega) hk hh ho hb w0 he hb3 (fun m1 hb1 f1 => ⟨rfl, ok_isTold (it := it) (by omega) hk hh hr ha hb1 ws (by omega) (by omega) (hS.fr f1 (Or.inl (by omega))) (fun j hj => by rw [f1 _ (by omega)]; exact hit j hj) (fun m2 f2 => ?_)⟩)⟩⟩
    have ff := f1.tr f2
    have k := fun bs hbs => ih (j + 1) m2 bs (by omega) (hb.same w0 (fun k hk => ff _ (by omega))) (hS.fr ff (Or.inl (by omega))) (fun j hj => by rw [ff _ (by omega)]; exact hit j hj) hbs (fun m3 f3 => q m3 (ff.tr f3))
    rw [show nI (lo + (j + 1)) = nI (lo + j) + nI 1 from (nI_add (lo + j) 1).symm] at k
    unfold zwb zwn zwl at k
    have eP : zso e it n 0 (va_up g (zsi b e) (lo + j)) = zwP g e b it n (lo + j) := rfl
    refine ⟨fun c => ?_, fun c => ?_⟩
    · have c : nI (zwP g e b it n (lo + j)) = 0 := c
      rw [n0 (by omega)] at c
      rw [if_pos c, if_pos c, if_pos c] at k
      exact k bs (fun h => by rw [hbs h]; exact (Int32.or_zero).symm)
    · have c : ¬ nI (zwP g e b it n (lo + j)) = 0 := c
      rw [n0 (by omega)] at c
      rw [if_neg c, if_neg c, if_neg c, show nI (zwn (zwP g e b it n) lo j + 1) = nI (zwn (zwP g e b it n) lo j) + nI 1 from (nI_add _ 1).symm] at k
      have kb := k (bs ||| nI 1 <<< (nI (lo + j) &&& 31)) (fun h => by rw [hbs h])
      have k0 : ¬ b < 2 → _ := fun hz => k (bs ||| nI 0) (fun h => absurd (hb2.mpr h) hz)
      have c9 : ∀ {A B : Prop}, (¬ zwn (zwP g e b it n) lo j = 0 → A) → (zwn (zwP g e b it n) lo j = 0 → B) → ((¬ nI (zwn (zwP g e b it n) lo j) = 0 → A) ∧ (nI (zwn (zwP g e b it n) lo j) = 0 → B)) := fun x y => ⟨fun z => x (by rw [n0 (by omega)] at z; exact z), fun z => y (by rw [n0 (by omega)] at z; exact z)⟩
      refine ⟨fun d1 => ?_, fun d1 => ⟨fun d2 => ?_, fun d2 => ?_⟩⟩
      · refine c9 (fun z => ?_) (fun z => ?_)
        · rw [if_neg z] at kb; exact kb
        · rw [if_pos z] at kb; exact kb
      · have d1 : ¬ nI b = 0 := d1
        have d2 : ¬ nI b = nI 1 := d2
        rw [n0 (by omega)] at d1
        rw [nEq (by omega) (by omega)] at d2
        have k0 := k0 (by omega)
        refine c9 (fun z => ?_) (fun z => ?_)
        · rw [if_neg z] at k0; exact k0
        · rw [if_pos z] at k0; exact k0
      · refine c9 (fun z => ?_) (fun z => ?_)
        · rw [if_neg z] at kb; exact kb
        · rw [if_pos z] at kb; exact kb
theorem fits_mid {e w r a n b : Nat} {v8 v9 v10 v11 v12 : Value} {it : Nat → Int32} (hw5 : w ≤ 5) (hbw : b = zab w) (hd : 4 < d) (hk : zKs lk) (hh : zHo lk 10128) (ho : zHo lk 10000) (hb : zHB mem 10000 g) (wf : zWF g) (he : e < g 0) (h6 : g 6 ≤ 999) (hr : r < 8) (ha : a + n ≤ 40) (hS : zSt mem) (hit : ∀ j, j < n → mem (200 + 40 * r + (a + j)) = it j) (q : ∀ mem', zfr mem mem' 10128 → Q (some (.int (zwhoA g e w it n))) mem') : zE X d 29 16 [.ref 710, .ref 10000, .int (nI e), .int (nI w), .ref (200 + 40 * r), .int (nI a), .int (nI n), .int (nI b), v8, v9, v10, v11, v12] [] mem lk L lk L Q := by
  have w1 := wf.2.1
  have hb3 : b ≤ 3 := by rw [hbw]; unfold zab; split <;> omega
  have k : ∀ lo, lo = zlo b → _ := fun lo h2 => fits_loop (X := X) (d := d) (L := L) (Q := Q) (r := r) (a := a) (n := n) (it := it) (hi := zhi g b) hw5 hbw h2 rfl hd hk hh ho wf he h6 hr ha (zhi g b + 1 - lo) 0 mem (nI 0) (by subst h2; unfold zlo zhi; split <;> (try split) <;> (try split) <;> (try split) <;> omega) hb hS hit (fun _ => rfl) q
  refine zE_do 60 16 (tbl := tX2_allThatFits) zck_29 rfl (h := ?_)
  refine ok_lastOf (by omega) ho hb wf (by omega) ⟨fun d1 => ?_, fun d1 => ⟨fun d2 => ?_, fun d2 => ?_⟩⟩
  · have d1 : nI b = 0 := d1
    rw [n0 (by omega)] at d1
    exact k 1 (by unfold zlo; rw [if_pos d1])
  · have d1 : ¬ nI b = 0 := d1
    have d2 : ¬ nI b = nI 3 := d2
    rw [n0 (by omega)] at d1
    rw [nEq (by omega) (by omega)] at d2
    exact k 0 (by unfold zlo; rw [if_neg d1, if_neg d2])
  · have d1 : ¬ nI b = 0 := d1
    have d2 : nI b = nI 3 := d2
    rw [n0 (by omega)] at d1
    rw [nEq (by omega) (by omega)] at d2
    exact k 1 (by unfold zlo; rw [if_neg d1, if_pos d2])
theorem ok_allThatFits {e w r a n : Nat} {it : Nat → Int32} (hw5 : w ≤ 5) (hd : 4 < d) (hk : zKs lk) (hh : zHo lk 10128) (ho : zHo lk 10000) (hb : zHB mem 10000 g) (wf : zWF g) (he : e < g 0) (h6 : g 6 ≤ 999) (hr : r < 8) (ha : a + n ≤ 40) (hS : zSt mem) (hit : ∀ j, j < n → mem (200 + 40 * r + (a + j)) = it j) (q : ∀ mem', zfr mem mem' 10128 → Q (some (.int (zwhoA g e w it n))) mem') : zOk X d 29 [.ref 710, .ref 10000, .int (nI e), .int (nI w), .ref (200 + 40 * r), .int (nI a), .int (nI n)] mem lk L lk L Q := by
  refine zOk_doc [16] 60 (tbl := tX2_allThatFits) zck_29 rfl (by omega) (h := ?_)
  refine ⟨fun c => ⟨by decide, ?_⟩, fun c => ?_⟩
  · have c : nI 2 ≤ nI w := c
    rw [nLe (by omega) (by omega)] at c
    have hbw : w / 2 + 1 = zab w := by unfold zab; rw [if_neg (by omega)]
    have eb : nI w / nI 2 + nI 1 = nI (w / 2 + 1) := by rw [pk_div (by omega) (by omega) (by omega), nI_add]
    have k := fun v8 v9 v10 v11 v12 => fits_mid (X := X) (L := L) (v8 := v8) (v9 := v9) (v10 := v10) (v11 := v11) (v12 := v12) hw5 hbw hd hk hh ho hb wf he h6 hr ha hS hit q
    rw [← eb] at k
    exact k _ _ _ _ _
  · have c : ¬ nI 2 ≤ nI w := c
    rw [nLe (by omega) (by omega)] at c
    have hbw : w = zab w := by unfold zab; rw [if_pos (by omega)]
    exact fits_mid hw5 hbw hd hk hh ho hb wf he h6 hr ha hS hit q
theorem ok_who {x y z i t : Int32} (hd : 6 < d) (hk : zKs lk) (hh : zHo lk 10128) (ho : zHo lk 10000) (hb : zHB mem 10000 g) (hN : zNow g) (hS : zSt mem) (hR : zCR mem rl rn ri) (hro : zRowOk rl rn)
    (qB : ((x.toInt < 0 ∨ (g 0 : Int) ≤ x.toInt) ∨ (y.toInt < 0 ∨ 5 < y.toInt) ∨ zNoRow z ∨ (t.toInt < 1 ∨ 12 < t.toInt)) → Q (some (.int (-(nI 1000001)))) mem)
    (q1 : ∀ e w r n, e < g 0 → x = nI e → w ≤ 5 → y = nI w → r < 8 → z = nI r → 1 ≤ n ∧ n ≤ 12 → t = nI n → rl r = 99 → Q (some (.int (-(nI 1000010) - nI 1))) (upd mem 109 (nI 1)))
    (q2 : ∀ e w r n, e < g 0 → x = nI e → w ≤ 5 → y = nI w → r < 8 → z = nI r → 1 ≤ n ∧ n ≤ 12 → t = nI n → rl r ≠ 99 → zNoCov (rn r) i t → Q (some (.int (-(nI 1000010) - nI 2))) (upd mem 109 (nI 2)))
    (q : ∀ e w r n a, e < g 0 → x = nI e → w ≤ 5 → y = nI w → r < 8 → z = nI r → 1 ≤ n ∧ n ≤ 12 → t = nI n → rl r ≠ 99 → i = nI a → a + n ≤ rn r → ∀ mem', zfr mem mem' 10128 → Q (some (.int (zwhoA g e w (fun j => ri (40 * r + (a + j))) n))) (upd mem' 109 (nI 0))) : zOk X d 117 [.ref 100, .int x, .int y, .int z, .int i, .int t] mem lk L lk L Q := by
  refine zOk_do 90 (tbl := tX7_who) zck_117 rfl (by omega) (h := ?_)
  refine ⟨rfl, _, hk.at 102 10000, by rw [ho.k3]; rfl, ok_isDish (by omega) ho hb hN.le.1 (fun e he ex => zT_eq ?_) (fun c => zF_eq ⟨rfl, rfl, qB (Or.inl c)⟩)⟩
  have wf := hN.wf (by omega)
  refine ok_isOutside (a := 0) (b := 5) (by omega) (by omega) (by omega) (fun c => zT_ne ⟨rfl, rfl, qB (Or.inr (Or.inl (by omega)))⟩) (fun w h1 h2 ey => zF_ne ?_)
  refine ok_isRow (by omega) (fun r hr er => zT_eq ?_) (fun c => zF_eq ⟨rfl, rfl, qB (Or.inr (Or.inr (Or.inl c)))⟩)
  refine ok_isOutside (a := 1) (b := 12) (by omega) (by omega) (by omega) (fun c => zT_eq ⟨rfl, rfl, qB (Or.inr (Or.inr (Or.inr (by omega))))⟩) (fun n h3 h4 en => zF_eq ?_)
  have p1 := q1 e w r n he ex h2 ey hr er ⟨h3, h4⟩ en
  have p2 := q2 e w r n he ex h2 ey hr er ⟨h3, h4⟩ en
  have p := fun a => q e w r n a he ex h2 ey hr er ⟨h3, h4⟩ en
  subst ex ey er en
  refine ⟨rfl, _, hk.at 100 120, rfl, ok_isMissing (by omega) hk hR hro hr (fun z => zT_eq ⟨rfl, ok_found (by omega) ⟨rfl, rfl, p1 z⟩⟩) (fun z => zF_eq ⟨rfl, _, hk.at 100 120, rfl, ?_⟩)⟩
  have h40 := (hro r hr z).2
  refine ok_covers (by omega) hk hR hro hr z (fun a b ea eb hab => zT_ne ?_) (fun c => zF_ne ⟨rfl, ok_found (by omega) ⟨rfl, rfl, p2 z c⟩⟩)
  have eb1 : b = n := by
    have hb2 : (nI n).toInt = (nI b).toInt := by rw [← eb]
    rw [nT (by omega), nT (by omega)] at hb2; omega
  subst eb1
  have pp := p a z ea hab
  subst ea
  have ea : (nI r).toNatClampNeg = r := nC (by omega)
  have hno : ∀ {A : Prop}, lk (150 + (nI r).toNatClampNeg) = none → A := fun {A} z => by rw [ea, hk.2 r hr] at z; cases z
  have hso : ∀ t, lk (150 + (nI r).toNatClampNeg) = some t → t = 200 + 40 * r := fun t ht => by rw [ea, hk.2 r hr] at ht; cases ht; rfl
  refine ⟨rfl, _, hk.at 106 710, rfl, _, hk.at 102 10000, rfl, _, hk.at 100 120, rfl, _, hk.at 122 150, Or.inr rfl, in8 150 rfl hr, fun z => hno z, fun t ht => ?_⟩
  cases hso t ht
  exact ⟨rfl, ok_allThatFits (it := fun j => ri (40 * r + (a + j))) h2 (by omega) hk hh ho hb wf.1 he wf.2 hr (by omega) hS (fun j hj => by rw [show 200 + 40 * r + (a + j) = 200 + (40 * r + (a + j)) by omega]; exact hR.2 _ (by omega)) (fun m1 f1 => ⟨rfl, ok_foundNothing (by omega) ⟨rfl, rfl, pp m1 f1⟩⟩)⟩
end WO
