/-! the reference: who -/
section MW
variable {X d : Nat} {mem : zMem} {lk : zLk} {L : List Nat} {Q : Option Value → zMem → Prop} {g : zH} {rl rn : Nat → Nat} {ri : Nat → Int32}
theorem isSo_loop {e o n : Nat} {it : Nat → Int32} (hd : 4 < d) (hk : zML lk) (ho : o + n ≤ 320) : ∀ m i b g mem, i + m = n → b ≤ 1 → zRw mem 43 g → zWF g → e < g 0 → g 6 + m ≤ 999999 → (∀ j, j < n → mem (3440 + (o + j)) = it j) → (∀ mem', ztfr mem mem' → Q (some (.int (nI (if b = 0 then 0 else zso e it m i g)))) mem') → zE X d 197 6 [.ref 1000, .int (nI e), .int (nI o), .int (nI n), .int (nI b), .int (nI i)] [] mem lk L lk L Q := by
  intro m
  induction m with
  | zero =>
    intro i b g mem hi hb1 hr wf he h6 hit q
    have c1 : nI n ≤ nI i := by rw [nLe (by omega) (by omega)]; omega
    refine zE_do 60 6 (tbl := tX8_isSo) zck_197 rfl (h := ?_)
    refine ⟨fun _ => ?_, fun c => absurd c1 c⟩
    have p := q mem ztfr.rf
    rw [show (if b = 0 then 0 else zso e it 0 i g) = b by unfold zso; split <;> omega] at p
    rcases (by omega : b = 0 ∨ b = 1) with z | z <;> subst z
    · exact ⟨rfl, rfl, rfl, p⟩
    · exact ⟨rfl, rfl, rfl, p⟩
  | succ m ih =>
    intro i b g mem hi hb1 hr wf he h6 hit q
    have w0 := wf.1
    have c1 : ¬ nI n ≤ nI i := by rw [nLe (by omega) (by omega)]; omega
    have hin : vp_in (nI o + nI i) (ln X 3440) := by rw [nI_add]; exact in320 (by omega)
    have wp := zpass_wf (ord := fun e => e) wf (by omega)
    have h61 : zpass (fun e => e) g 6 = g 6 + 1 := zpass_6 wf.1
    have h01 : zpass (fun e => e) g 0 = g 0 := zpass_ne wf.1 (by omega) (by omega) (by omega) (by omega)
    refine zE_do 60 6 (tbl := tX8_isSo) zck_197 rfl (h := ?_)
    refine ⟨fun c => absurd c c1, fun _ => ⟨rfl, ok_mpasses (r := 43) (by omega) hk.1 (by omega) hr.1 wf (by omega) hr.2 (fun m2 hb2 f2 => ?_)⟩⟩
    have eh : m2 (2000 + (nI 74 + nI e).toNatClampNeg) = nI (zpass (fun e => e) g (31 + e)) := by rw [zw1 (by omega), show 2000 + (74 + e) = 2000 + 43 + 31 + e by omega]; exact hb2.ht (by omega)
    have ei : m2 (3440 + (nI o + nI i).toNatClampNeg) = it i := by rw [nI_add, nC (by omega), f2 _ (by omega)]; exact hit i (by omega)
    have k := fun b hb1 q' => ih (i + 1) b (zpass (fun e => e) g) m2 (by omega) hb1 (hr.to hb2 h01 f2) wp (by omega) (by omega) (fun j hj => by rw [f2 _ (by omega)]; exact hit j hj) q'
    rw [show nI (i + 1) = nI i + nI 1 from (nI_add i 1).symm] at k
    refine ⟨fun c => ?_, fun c => ⟨rfl, _, hk.1, Or.inl rfl, zwi1 (by omega), rfl, _, hk.d, Or.inl rfl, hin, fun c2 => ?_, fun c2 => ?_⟩⟩
    · have c : nI b = 0 := c
      rw [n0 (by omega)] at c
      exact k 0 (by omega) (fun m3 f3 => by have := q m3 (f2.t.tr f3); rw [if_pos c] at this; rw [if_pos rfl]; exact this)
    · have c : ¬ nI b = 0 := c
      have c2 : ¬ m2 (2000 + (nI 74 + nI e).toNatClampNeg) = m2 (3440 + (nI o + nI i).toNatClampNeg) := c2
      rw [n0 (by omega)] at c
      rw [eh, ei] at c2
      exact k 0 (by omega) (fun m3 f3 => by have := q m3 (f2.t.tr f3); unfold zso at this; rw [if_neg c, if_neg c2] at this; rw [if_pos rfl]; exact this)
    · have c : ¬ nI b = 0 := c
      have c2 : m2 (2000 + (nI 74 + nI e).toNatClampNeg) = m2 (3440 + (nI o + nI i).toNatClampNeg) := c2
      rw [n0 (by omega)] at c
      rw [eh, ei] at c2
      exact k 1 (by omega) (fun m3 f3 => by have := q m3 (f2.t.tr f3); unfold zso at this; rw [if_neg c, if_pos c2] at this; rw [if_neg (by omega)]; exact this)
theorem ok_isSo {e o n : Nat} {x : Int32} {it : Nat → Int32} (ex : x = nI o) (hd : 4 < d) (hk : zML lk) (ho : o + n ≤ 320) (hr : zRw mem 43 g) (wf : zWF g) (he : e < g 0) (h6 : g 6 + n ≤ 999999) (hit : ∀ j, j < n → mem (3440 + (o + j)) = it j) (q : ∀ mem', ztfr mem mem' → Q (some (.int (nI (zso e it n 0 g)))) mem') : zOk X d 197 [.ref 1000, .int (nI e), .int x, .int (nI n)] mem lk L lk L Q := by
  subst ex
  refine zOk_do 20 (tbl := tX8_isSo) zck_197 rfl (by omega) (h := ?_)
  exact isSo_loop (it := it) hd hk ho n 0 1 g mem (by omega) (by omega) hr wf he h6 hit q
theorem mwho_bits {e w o n hi : Nat} {x i r : Int32} {it : Nat → Int32} {v6 v11 : Value} (hw2 : w < 2) (hhi : hi = zhi g w) (ex : x = nI o) (hd : 5 < d) (hk : zML lk) (wf : zWF g) (he : e < g 0) (h6 : g 6 ≤ 999) (hn : n ≤ 12) (ho : o + n ≤ 320) : ∀ m j mem, zlo w + j + m = hi + 1 → zRw mem 0 g → (∀ j, j < n → mem (3440 + (o + j)) = it j) → (∀ mem', ztfr mem mem' → Q (some (.int (zwhoA g e w it n))) mem') → zE X d 198 117 [.ref 1000, .int (nI e), .int (nI w), .int r, .int i, .int (nI n), v6, .int x, .int (zwb (zwP g e w it n) (zlo w) j), .int (nI hi), .int (nI (zlo w + j)), v11] [] mem lk L lk L Q := by
  have w0 := wf.1
  have w9 := wf.2.2.1
  have ew : zab w = w := by unfold zab; exact if_pos hw2
  have hh9 : hi ≤ 8 := by
    rw [hhi]; unfold zhi
    rcases (by omega : w = 0 ∨ w = 1) with z | z <;> subst z
    · exact (by decide : 5 ≤ 8)
    · show g 1 - 1 ≤ 8; omega
  intro m
  induction m with
  | zero =>
    intro j mem hj hr hit q
    have c1 : nI hi < nI (zlo w + j) := by rw [nLt (by omega) (by omega)]; omega
    have ej : j = zhi g w + 1 - zlo w := by omega
    unfold zwhoA at q
    rw [if_pos hw2, ew, ← ej] at q
    refine zE_do 60 117 (tbl := tX8_who) zck_198 rfl (h := ?_)
    exact ⟨fun _ => ⟨rfl, rfl, q mem ztfr.rf⟩, fun c => absurd c1 c⟩
  | succ m ih =>
    intro j mem hj hr hit q
    have c1 : ¬ nI hi < nI (zlo w + j) := by rw [nLt (by omega) (by omega)]; omega
    have ws := zsup_wf wf (b := w) (by omega) he (v := zlo w + j) (by omega) (by omega)
    have hsi := zsi_le (b := w) (e := e) (by omega)
    have e6 : va_up g (zsi w e) (zlo w + j) 6 = g 6 := zup_ne (by omega)
    have e0 : va_up g (zsi w e) (zlo w + j) 0 = g 0 := zup_ne (by omega)
    have hP : zwP g e w it n (zlo w + j) ≤ 1 := zso_le _ _ _ _ _
    have key : ∀ m1, ztfr mem m1 → zRw m1 43 (va_up g (zsi w e) (zlo w + j)) → zE X d 198 150 [.ref 1000, .int (nI e), .int (nI w), .int r, .int i, .int (nI n), v6, .int x, .int (zwb (zwP g e w it n) (zlo w) j), .int (nI hi), .int (nI (zlo w + j)), v11] [] m1 lk L lk L Q := fun m1 f1 hr1 => by
      refine zE_do 60 150 (tbl := tX8_who) zck_198 rfl (h := ?_)
      refine ⟨rfl, ok_isSo (it := it) ex (by omega) hk ho hr1 ws (by omega) (by omega) (fun j hj => by rw [f1 _ (by omega)]; exact hit j hj) (fun m2 f2 => ?_)⟩
      have ff := f1.tr f2
      have k := ih (j + 1) m2 (by omega) (hr.same w0 (fun k hk => ff _ (by omega))) (fun j hj => by rw [ff _ (by omega)]; exact hit j hj) (fun m3 f3 => q m3 (ff.tr f3))
      rw [show nI (zlo w + (j + 1)) = nI (zlo w + j) + nI 1 from (nI_add (zlo w + j) 1).symm] at k
      unfold zwb at k
      refine ⟨fun c => ?_, fun c => ?_⟩
      · have c : nI (zwP g e w it n (zlo w + j)) = 0 := c
        rw [n0 (by omega)] at c
        rw [if_pos c] at k
        exact k
      · have c : ¬ nI (zwP g e w it n (zlo w + j)) = 0 := c
        rw [n0 (by omega)] at c
        rw [if_neg c] at k
        exact k
    refine zgoc [150] 60 117 (tbl := tX8_who) zck_198 rfl (h := ?_)
    refine ⟨fun c => absurd c c1, fun _ => ⟨rfl, ok_tries (by omega) hk.1 hr wf.1 (fun m1 hr1 f1 => ⟨rfl, _, hk.1, fun cc => ⟨rfl, zwi1 (by omega), ?_⟩, fun cc => ⟨rfl, ?_, ?_⟩⟩)⟩⟩
    · have cc : ¬ nI w = 0 := cc
      rw [n0 (by omega)] at cc
      have es : zsi w e = 4 := by unfold zsi; rw [if_neg cc, if_pos (by omega)]
      have f2 : zfr m1 (upd m1 (2000 + (nI 43 + nI 4).toNatClampNeg) (nI (zlo w + j))) (2000 + 43) := zfr.up (by show 2000 + 43 ≤ 2000 + 47; omega) (by show 2000 + 47 < _; omega)
      exact key _ (f1.tr f2.t) (hr1.to (by rw [es]; exact hr1.1.set 4 _ (by omega) rfl) e0 f2)
    · rw [nI_add, nI_add]; exact zwi0 (by omega)
    · have cc : nI w = 0 := cc
      rw [n0 (by omega)] at cc
      have es : zsi w e = 7 + e := by unfold zsi; rw [if_pos cc]
      have ea : 2000 + (nI 43 + (nI 7 + nI e)).toNatClampNeg = 2000 + 43 + (7 + e) := by rw [nI_add, nI_add, nC (by omega)]; omega
      have f2 : zfr m1 (upd m1 (2000 + (nI 43 + (nI 7 + nI e)).toNatClampNeg) (nI (zlo w + j))) (2000 + 43) := zfr.up (by omega) (by omega)
      exact key _ (f1.tr f2.t) (hr1.to (by rw [es]; exact hr1.1.set (7 + e) _ (by omega) ea) e0 f2)
theorem mwho_nums {e w o n b hi : Nat} {x i r : Int32} {it : Nat → Int32} {v6 : Value} (hw2 : 2 ≤ w) (hw5 : w ≤ 5) (hb : b = zab w) (hhi : hi = zhi g b) (ex : x = nI o) (hd : 5 < d) (hk : zML lk) (wf : zWF g) (he : e < g 0) (h6 : g 6 ≤ 999) (hn : n ≤ 12) (ho : o + n ≤ 320) : ∀ m j mem, zlo b + j + m = hi + 1 → zRw mem 0 g → (∀ j, j < n → mem (3440 + (o + j)) = it j) → (∀ mem', ztfr mem mem' → Q (some (.int (zwhoA g e w it n))) mem') → zE X d 198 217 [.ref 1000, .int (nI e), .int (nI w), .int r, .int i, .int (nI n), v6, .int x, .int (nI (zwn (zwP g e b it n) (zlo b) j)), .int (zwl (zwP g e b it n) (zlo b) j), .int (nI hi), .int (nI (zlo b + j))] [] mem lk L lk L Q := by
  have w0 := wf.1
  have w9 := wf.2.2.1
  have ew : b = w / 2 + 1 := by rw [hb]; unfold zab; exact if_neg (by omega)
  have hh60 : hi ≤ 60 := by
    rw [hhi]; unfold zhi
    rw [if_neg (by omega), if_neg (by omega)]
    split <;> omega
  intro m
  induction m with
  | zero =>
    intro j mem hj hr hit q
    have c1 : nI hi < nI (zlo b + j) := by rw [nLt (by omega) (by omega)]; omega
    have ej : j = zhi g b + 1 - zlo b := by omega
    unfold zwhoA at q
    rw [if_neg (by omega), ← hb, ← ej] at q
    refine zE_do 60 217 (tbl := tX8_who) zck_198 rfl (h := ?_)
    refine ⟨fun _ => ⟨by decide, fun c2 => ⟨rfl, rfl, ?_⟩, fun c2 => ⟨rfl, rfl, ?_⟩⟩, fun c => absurd c1 c⟩
    · have c2 : ¬ nI w - nI w / nI 2 * nI 2 = 0 := c2
      rw [nrem (by omega) (by omega) (by omega), n0 (by omega)] at c2
      rw [if_neg c2] at q
      exact q mem ztfr.rf
    · have c2 : nI w - nI w / nI 2 * nI 2 = 0 := c2
      rw [nrem (by omega) (by omega) (by omega), n0 (by omega)] at c2
      rw [if_pos c2] at q
      exact q mem ztfr.rf
  | succ m ih =>
    intro j mem hj hr hit q
    have c1 : ¬ nI hi < nI (zlo b + j) := by rw [nLt (by omega) (by omega)]; omega
    have ws := zsup_wf wf (b := b) (by omega) he (v := zlo b + j) (by omega) (by omega)
    have hsi := zsi_le (b := b) (e := e) (by omega)
    have e6 : va_up g (zsi b e) (zlo b + j) 6 = g 6 := zup_ne (by omega)
    have e0 : va_up g (zsi b e) (zlo b + j) 0 = g 0 := zup_ne (by omega)
    have hP : zwP g e b it n (zlo b + j) ≤ 1 := zso_le _ _ _ _ _
    have hn := zwn_le (zwP g e b it n) (zlo b) j
    have key : ∀ m1, ztfr mem m1 → zRw m1 43 (va_up g (zsi b e) (zlo b + j)) → zE X d 198 251 [.ref 1000, .int (nI e), .int (nI w), .int r, .int i, .int (nI n), v6, .int x, .int (nI (zwn (zwP g e b it n) (zlo b) j)), .int (zwl (zwP g e b it n) (zlo b) j), .int (nI hi), .int (nI (zlo b + j))] [] m1 lk L lk L Q := fun m1 f1 hr1 => by
      refine zE_do 60 251 (tbl := tX8_who) zck_198 rfl (h := ?_)
      refine ⟨rfl, ok_isSo (it := it) ex (by omega) hk ho hr1 ws (by omega) (by omega) (fun j hj => by rw [f1 _ (by omega)]; exact hit j hj) (fun m2 f2 => ?_)⟩
      have ff := f1.tr f2
      have k := ih (j + 1) m2 (by omega) (hr.same w0 (fun k hk => ff _ (by omega))) (fun j hj => by rw [ff _ (by omega)]; exact hit j hj) (fun m3 f3 => q m3 (ff.tr f3))
      rw [show nI (zlo b + (j + 1)) = nI (zlo b + j) + nI 1 from (nI_add (zlo b + j) 1).symm] at k
      unfold zwn zwl at k
      refine ⟨fun c => ?_, fun c => ⟨fun c2 => ?_, fun c2 => ?_⟩⟩
      · have c : nI (zwP g e b it n (zlo b + j)) = 0 := c
        rw [n0 (by omega)] at c
        rw [if_pos c, if_pos c] at k
        exact k
      · have c : ¬ nI (zwP g e b it n (zlo b + j)) = 0 := c
        have c2 : ¬ nI (zwn (zwP g e b it n) (zlo b) j) = 0 := c2
        rw [n0 (by omega)] at c c2
        rw [if_neg c, if_neg c, if_neg c2, show nI (zwn (zwP g e b it n) (zlo b) j + 1) = nI (zwn (zwP g e b it n) (zlo b) j) + nI 1 from (nI_add _ 1).symm] at k
        exact k
      · have c : ¬ nI (zwP g e b it n (zlo b + j)) = 0 := c
        have c2 : nI (zwn (zwP g e b it n) (zlo b) j) = 0 := c2
        rw [n0 (by omega)] at c c2
        rw [if_neg c, if_neg c, if_pos c2, show nI (zwn (zwP g e b it n) (zlo b) j + 1) = nI (zwn (zwP g e b it n) (zlo b) j) + nI 1 from (nI_add _ 1).symm] at k
        exact k
    refine zgoc [251] 60 217 (tbl := tX8_who) zck_198 rfl (h := ?_)
    refine ⟨fun c => absurd c c1, fun _ => ⟨rfl, ok_tries (by omega) hk.1 hr wf.1 (fun m1 hr1 f1 => ⟨rfl, _, hk.1, fun cc => ⟨rfl, zwi1 (by omega), ?_⟩, fun cc => ⟨rfl, ?_, ?_⟩⟩)⟩⟩
    · have cc : nI 4 ≤ nI w := cc
      rw [nLe (by omega) (by omega)] at cc
      have es : zsi b e = 3 := by unfold zsi; rw [if_neg (by omega), if_neg (by omega), if_neg (by omega)]
      have f2 : zfr m1 (upd m1 (2000 + (nI 43 + nI 3).toNatClampNeg) (nI (zlo b + j))) (2000 + 43) := zfr.up (by show 2000 + 43 ≤ 2000 + 46; omega) (by show 2000 + 46 < _; omega)
      exact key _ (f1.tr f2.t) (hr1.to (by rw [es]; exact hr1.1.set 3 _ (by omega) rfl) e0 f2)
    · rw [nI_add, nI_add]; exact zwi0 (by omega)
    · have cc : ¬ nI 4 ≤ nI w := cc
      rw [nLe (by omega) (by omega)] at cc
      have es : zsi b e = 31 + e := by unfold zsi; rw [if_neg (by omega), if_neg (by omega), if_pos (by omega)]
      have ea : 2000 + (nI 43 + (nI 31 + nI e)).toNatClampNeg = 2000 + 43 + (31 + e) := by rw [nI_add, nI_add, nC (by omega)]; omega
      have f2 : zfr m1 (upd m1 (2000 + (nI 43 + (nI 31 + nI e)).toNatClampNeg) (nI (zlo b + j))) (2000 + 43) := zfr.up (by omega) (by omega)
      exact key _ (f1.tr f2.t) (hr1.to (by rw [es]; exact hr1.1.set (31 + e) _ (by omega) ea) e0 f2)
theorem mwho_mid {e w r a b : Nat} {v7 v8 v9 v10 v11 : Value} (hd : 5 < d) (hk : zML lk) (hr0 : zRw mem 0 g) (wf : zWF g ∧ g 6 ≤ 999) (hR : zMR mem rl rn ri) (he : e < g 0) (h2 : w ≤ 5) (hr : r < 8) (h4 : b ≤ 12) (hab : a + b ≤ rn r) (h40 : rn r ≤ 40)
    (pp : ∀ mem', ztfr mem mem' → Q (some (.int (zwhoA g e w (fun j => ri (40 * r + (a + j))) b))) mem') : zE X d 198 71 [.ref 1000, .int (nI e), .int (nI w), .int (nI r), .int (nI a), .int (nI b), .int (nI 0), v7, v8, v9, v10, v11] [] mem lk L lk L Q := by
  have w0 := wf.1.1
  have w1 := wf.1.2.1
  have w9 := wf.1.2.2.1
  have ex : nI 40 * nI r + nI a = nI (40 * r + a) := by rw [nmul, nI_add]
  have hit : ∀ j, j < b → mem (3440 + (40 * r + a + j)) = (fun j => ri (40 * r + (a + j))) j := fun j hj => by
    rw [show 3440 + (40 * r + a + j) = 3440 + (40 * r + (a + j)) by omega]
    exact hR.2 _ (by omega)
  have e1 : mem (2000 + (nI 1).toNatClampNeg) - nI 1 = nI (g 1 - 1) := by rw [show mem (2000 + (nI 1).toNatClampNeg) = nI (g 1) from hr0.1.k 1 (by omega), nsub (by omega) (by omega)]
  have kb : ∀ v6 v11 hi lo, w < 2 → hi = zhi g w → zlo w = lo → lo ≤ hi → zE X d 198 117 [.ref 1000, .int (nI e), .int (nI w), .int (nI r), .int (nI a), .int (nI b), v6, .int (nI 40 * nI r + nI a), .int (nI 0), .int (nI hi), .int (nI lo), v11] [] mem lk L lk L Q := fun v6 v11 hi lo hw2 h5 h6 h7 => by
    subst h6
    exact mwho_bits (o := 40 * r + a) (it := fun j => ri (40 * r + (a + j))) hw2 h5 ex (by omega) hk wf.1 he wf.2 h4 (by omega) (hi + 1 - zlo w) 0 _ (by omega) hr0 hit pp
  have kn : ∀ v6 hi lo, 2 ≤ w → hi = zhi g (zab w) → zlo (zab w) = lo → lo ≤ hi → zE X d 198 217 [.ref 1000, .int (nI e), .int (nI w), .int (nI r), .int (nI a), .int (nI b), v6, .int (nI 40 * nI r + nI a), .int (nI 0), .int (-(nI 1000000)), .int (nI hi), .int (nI lo)] [] mem lk L lk L Q := fun v6 hi lo hw2 h5 h6 h7 => by
    subst h6
    exact mwho_nums (o := 40 * r + a) (it := fun j => ri (40 * r + (a + j))) hw2 h2 rfl h5 ex (by omega) hk wf.1 he wf.2 h4 (by omega) (hi + 1 - zlo (zab w)) 0 _ (by omega) hr0 hit pp
  refine zE_do 90 71 (tbl := tX8_who) zck_198 rfl (h := ?_)
  refine ⟨fun c => ⟨fun c2 => ⟨fun c3 => ?_, fun c3 => absurd c2 c3⟩, fun c2 => ⟨fun c3 => absurd c3 c2, fun c3 => ?_⟩⟩, fun c => ⟨fun c2 => ⟨rfl, _, hk.1, Or.inl rfl, zwi0 (by omega), fun c3 => ?_, fun c3 => absurd c3 c2⟩, fun c2 => ⟨fun c3 => absurd c2 c3, fun c3 => ?_⟩⟩⟩
  · have c2 : nI 4 ≤ nI w := c2
    rw [nLe (by omega) (by omega)] at c2
    have ew : zab w = 3 := by unfold zab; rw [if_neg (by omega)]; omega
    exact kn _ 40 1 (by omega) (by rw [ew]; rfl) (by rw [ew]; rfl) (by omega)
  · have c : nI 2 ≤ nI w := c
    have c2 : ¬ nI 4 ≤ nI w := c2
    rw [nLe (by omega) (by omega)] at c c2
    have ew : zab w = 2 := by unfold zab; rw [if_neg (by omega)]; omega
    exact kn _ 60 0 (by omega) (by rw [ew]; rfl) (by rw [ew]; rfl) (by omega)
  · have c : ¬ nI 2 ≤ nI w := c
    have c2 : ¬ nI w = 0 := c2
    rw [nLe (by omega) (by omega)] at c
    rw [n0 (by omega)] at c2
    have ew : w = 1 := by omega
    have k := fun v6 v11 => kb v6 v11 (g 1 - 1) 0 (by omega) (by rw [ew]; rfl) (by rw [ew]; rfl) (by omega)
    rw [← e1] at k
    exact k _ _
  · have c2 : nI w = 0 := c2
    rw [n0 (by omega)] at c2
    exact kb _ _ 5 1 (by omega) (by rw [c2]; rfl) (by rw [c2]; rfl) (by omega)
theorem ok_mwho {x y z i t : Int32} (hd : 6 < d) (hk : zML lk) (hr0 : zRw mem 0 g) (hN : zNow g) (hR : zMR mem rl rn ri) (hro : zRowOk rl rn)
    (qB : ((x.toInt < 0 ∨ (g 0 : Int) ≤ x.toInt) ∨ (y.toInt < 0 ∨ 5 < y.toInt) ∨ zNoRow z ∨ (t.toInt < 1 ∨ 12 < t.toInt)) → Q (some (.int (-(nI 1000001)))) mem)
    (q1 : ∀ e w r n, e < g 0 → x = nI e → w ≤ 5 → y = nI w → r < 8 → z = nI r → 1 ≤ n ∧ n ≤ 12 → t = nI n → rl r = 99 → Q (some (.int (-(nI 1000010) - nI 1))) (upd mem 1005 (nI 1)))
    (q2 : ∀ e w r n, e < g 0 → x = nI e → w ≤ 5 → y = nI w → r < 8 → z = nI r → 1 ≤ n ∧ n ≤ 12 → t = nI n → rl r ≠ 99 → zNoCov (rn r) i t → Q (some (.int (-(nI 1000010) - nI 2))) (upd mem 1005 (nI 2)))
    (q : ∀ e w r n a, e < g 0 → x = nI e → w ≤ 5 → y = nI w → r < 8 → z = nI r → 1 ≤ n ∧ n ≤ 12 → t = nI n → rl r ≠ 99 → i = nI a → a + n ≤ rn r → ∀ mem', ztfr (upd mem 1005 (nI 0)) mem' → Q (some (.int (zwhoA g e w (fun j => ri (40 * r + (a + j))) n))) mem') : zOk X d 198 [.ref 1000, .int x, .int y, .int z, .int i, .int t] mem lk L lk L Q := by
  refine zOk_doc [71] 120 (tbl := tX8_who) zck_198 rfl (by omega) (h := ?_)
  refine ⟨rfl, ok_misDish (by omega) hk.1 hr0.1 hN.le.1 (fun e he ex => zT_eq ?_) (fun c => zF_eq ⟨rfl, rfl, qB (Or.inl c)⟩)⟩
  have wf := hN.wf (by omega)
  have w0 := wf.1.1
  have w1 := wf.1.2.1
  have w9 := wf.1.2.2.1
  refine ok_min (a := 0) (b := 5) (by omega) (by omega) (by omega) (fun c => zF_eq ⟨rfl, rfl, qB (Or.inr (Or.inl (by omega)))⟩) (fun w h1 h2 ey => zT_eq ?_)
  refine ok_misRow (by omega) (fun r hr er => zT_eq ?_) (fun c => zF_eq ⟨rfl, rfl, qB (Or.inr (Or.inr (Or.inl c)))⟩)
  refine ok_min (a := 1) (b := 12) (by omega) (by omega) (by omega) (fun c => zF_ne ⟨rfl, rfl, qB (Or.inr (Or.inr (Or.inr (by omega))))⟩) (fun n h3 h4 en => zT_ne ?_)
  have p1 := q1 e w r n he ex h2 ey hr er ⟨h3, h4⟩ en
  have p2 := q2 e w r n he ex h2 ey hr er ⟨h3, h4⟩ en
  have p := fun a => q e w r n a he ex h2 ey hr er ⟨h3, h4⟩ en
  subst ex ey er en
  refine ⟨rfl, ok_against (by omega) hk hR hro hr (fun z => ⟨fun c => absurd c (by decide), fun _ => ⟨rfl, ok_mfinds (by omega) ⟨rfl, rfl, p1 z⟩⟩⟩) (fun z c => ⟨fun c => absurd c (by decide), fun _ => ⟨rfl, ok_mfinds (by omega) ⟨rfl, rfl, p2 z c⟩⟩⟩) (fun z a b ea eb hab => ⟨fun _ => ⟨rfl, ?_⟩, fun c => absurd (show nI 0 ≤ (0 : Int32) by decide) c⟩)⟩
  have h40 := (hro r hr z).2
  have eb1 : b = n := by
    have hb2 : (nI n).toInt = (nI b).toInt := by rw [← eb]
    rw [nT (by omega), nT (by omega)] at hb2; omega
  subst eb1
  have pp := p a z ea hab
  subst ea
  exact mwho_mid (by omega) hk (hr0.same w0 (fun j hj => upd_ne (by omega))) wf (hR.st (Or.inl (by omega))) he h2 hr h4 hab h40 pp
end MW
