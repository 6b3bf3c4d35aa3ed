/-! the reference: waitsBy, bestRanks, ranks -/
def zfb2 {α : Type} (f : Nat → α → α) : Nat → Nat → α → α
  | 0, _, S => S
  | r + 1, i, S => zfb2 f r (i + 1) (f i S)
theorem zfb2_eq {α : Type} (f : Nat → α → α) (S : α) : ∀ r i, zfb2 f r i (zfld f i S) = zfld f (i + r) S
  | 0, i => rfl
  | r + 1, i => by
    show zfb2 f r (i + 1) (zfld f (i + 1) S) = zfld f (i + (r + 1)) S
    rw [zfb2_eq f S r (i + 1), show i + 1 + r = i + (r + 1) by omega]
def znfr (mem mem' : zMem) : Prop := ∀ x, ¬ (3800 ≤ x ∧ x < 3807) → ¬ (3810 ≤ x ∧ x < 3816) → ¬ (2043 ≤ x ∧ x < 2086) → mem' x = mem x
theorem znfr.rf {mem : zMem} : znfr mem mem := fun _ _ _ _ => rfl
theorem znfr.tr {m1 m2 m3 : zMem} (h : znfr m1 m2) (h' : znfr m2 m3) : znfr m1 m3 := fun x a b c => (h' x a b c).trans (h x a b c)
theorem ztfr.n {m1 m2 : zMem} (h : ztfr m1 m2) : znfr m1 m2 := fun x _ _ c => h x c
theorem znfr.o {mem : zMem} {y : Nat} {v : Int32} (h : 3800 ≤ y ∧ y < 3807) : znfr mem (upd mem y v) := fun x e _ _ => upd_ne (by omega)
theorem znfr.b {mem : zMem} {y : Nat} {v : Int32} (h : 3810 ≤ y ∧ y < 3816) : znfr mem (upd mem y v) := fun x _ e _ => upd_ne (by omega)
section MK
variable {X d : Nat} {mem : zMem} {lk : zLk} {L : List Nat} {Q : Option Value → zMem → Prop} {g : zH} {n : Nat}
theorem zML.o {lk : zLk} (h : zML lk) : lk 1013 = some 3800 := h.2.2.2.2.2.2.1
theorem zML.bo {lk : zLk} (h : zML lk) : lk 1014 = some 3810 := h.2.2.2.2.2.2.2.1
theorem in7 {X s : Nat} (h : s < 7) : vp_in (nI s) (ln X 3800) := vp_in_nI h (by show 7 < 2 ^ 31; decide)
theorem in6b {X s : Nat} (h : s < 6) : vp_in (nI s) (ln X 3810) := vp_in_nI h (by show 6 < 2 ^ 31; decide)
theorem waits_sum {o : Nat → Nat} (hn : n ≤ 40) (hd : 4 < d) (hw : lk 1000 = some 2000) (wf : zWF g) : ∀ m k c h mem, k + m = n + 1 → c ≤ 6 * k → c + zrst o m h = zco o n g → zHB mem 2000 g → zHB mem (2000 + 43) h → zRk mem (2000 + 43) o (h 0) → zWF h → h 0 = g 0 → h 6 + m ≤ 999999 → (∀ mem', ztfr mem mem' → Q (some (.int (nI (zco o n g)))) mem') → zE X d 190 41 [.ref 1000, .int (nI n), .int (nI c), .int (nI k)] [] mem lk L lk L Q := by
  have w0 := wf.1
  intro m
  induction m with
  | zero =>
    intro k c h mem hk hck hC hb hb2 hr wh h0 h6 q
    have c1 : nI n < nI k := by rw [nLt (by omega) (by omega)]; omega
    have hC : c + 0 = zco o n g := hC
    rw [← hC, Nat.add_zero] at q
    refine zE_do 60 41 (tbl := tX8_waitsBy) zck_190 rfl (h := ?_)
    exact ⟨fun _ => ⟨rfl, rfl, q mem ztfr.rf⟩, fun cc => absurd c1 cc⟩
  | succ m ih =>
    intro k c h mem hk hck hC hb hb2 hr wh h0 h6 q
    have c1 : ¬ nI n < nI k := by rw [nLt (by omega) (by omega)]; omega
    have hh := wh.1
    have e0 : mem (2000 + (nI 0).toNatClampNeg) = nI (g 0) := hb.k 0 (by omega)
    have hcn := zcnt_le h 11 (h 0)
    have hpc := zpc_bits h 11 (h 0) hh
    have eo : nI (g 0) - nI (zpc (zbits h 11 (h 0))) = nI (zop h) := by
      rw [hpc, nsub (by omega) (by omega)]
      unfold zop
      rw [h0]
    have hop : zop h ≤ 6 := Nat.le_trans zop_le hh
    have hC : c + zco o m h = zco o n g := hC
    have p0 : zpass o h 0 = h 0 := zpass_ne hh (by omega) (by omega) (by omega) (by omega)
    have p6 : zpass o h 6 = h 6 + 1 := zpass_6 hh
    refine zE_do 60 41 (tbl := tX8_waitsBy) zck_190 rfl (h := ?_)
    refine ⟨fun cc => absurd cc c1, fun _ => ⟨rfl, _, hw, Or.inl rfl, zwi0 (by omega), rfl, ok_mservedOf (r := 43) (by omega) hw (by omega) hb2 hh wh.at11 (ok_ones (by omega) (zbits64 hh) ⟨rfl, ok_mpasses (r := 43) (by omega) hw (by omega) hb2 wh (by omega) hr (fun m1 hb1 f1 => ?_)⟩)⟩⟩
    have k1 := ih (k + 1) (c + zop h) (zpass o h) m1 (by omega) (by omega) (by
      cases m with
      | zero => show c + zop h + 0 = _; have : c + zop h = zco o n g := hC; omega
      | succ m => show c + zop h + zco o m (zpass o h) = _; have : c + (zop h + zco o m (zpass o h)) = zco o n g := hC; omega) (hb.same w0 (fun j hj => f1 _ (by omega))) hb1 (fun e he => by rw [p0] at he ⊢; rw [f1 _ (by omega)]; exact hr e he) (zpass_wf wh (by omega)) (by omega) (by omega) (fun m2 f2 => q m2 (f1.t.tr f2))
    rw [show nI (k + 1) = nI k + nI 1 from (nI_add k 1).symm, ← nI_add c, ← eo, ← e0] at k1
    exact k1
theorem waits_ranks {o : Nat → Nat} (hn : n ≤ 40) (hd : 4 < d) (hk : zML lk) (wf : zWF g) (h6 : g 6 ≤ 999) (ho : ∀ j, j < g 0 → o j < g 0) : ∀ m e mem v3, e + m = g 0 → zHB mem 2000 g → zHB mem (2000 + 43) g → (∀ j, j < g 0 → mem (3800 + j) = nI (o j)) → (∀ j, j < e → mem (2000 + 43 + 37 + j) = nI (o j)) → (∀ mem', ztfr mem mem' → Q (some (.int (nI (zco o n g)))) mem') → zE X d 190 6 [.ref 1000, .int (nI n), .int (nI e), v3] [] mem lk L lk L Q := by
  have w0 := wf.1
  intro m
  induction m with
  | zero =>
    intro e mem v3 he hb hb2 hO hr q
    have e0 : mem (2000 + (nI 0).toNatClampNeg) = nI (g 0) := hb.k 0 (by omega)
    refine zE_do 60 6 (tbl := tX8_waitsBy) zck_190 rfl (h := ?_)
    refine ⟨rfl, _, hk.1, Or.inl rfl, zwi0 (by omega), fun _ => ?_, fun c => ?_⟩
    · exact waits_sum hn hd hk.1 wf (n + 1) 0 0 g mem (by omega) (by omega) (by rw [Nat.zero_add]; rfl) hb hb2 (fun x hx => ⟨hr x (by omega), ho x hx⟩) wf rfl (by omega) q
    · exfalso
      have c : ¬ mem (2000 + (nI 0).toNatClampNeg) ≤ nI e := c
      rw [e0, nLe (by omega) (by omega)] at c
      omega
  | succ m ih =>
    intro e mem v3 he hb hb2 hO hr q
    have e0 : mem (2000 + (nI 0).toNatClampNeg) = nI (g 0) := hb.k 0 (by omega)
    have ee : (nI e).toNatClampNeg = e := nC (by omega)
    have ea : 2000 + (nI 80 + nI e).toNatClampNeg = 2080 + e := by rw [nI_add, nC (by omega)]; omega
    have eo : mem (3800 + (nI e).toNatClampNeg) = nI (o e) := by rw [ee]; exact hO e (by omega)
    refine zE_do 60 6 (tbl := tX8_waitsBy) zck_190 rfl (h := ?_)
    refine ⟨rfl, _, hk.1, Or.inl rfl, zwi0 (by omega), fun c => ?_, fun _ => ⟨rfl, _, hk.1, rfl, _, hk.o, Or.inl rfl, in7 (by omega), rfl, zwi1 (by omega), ?_⟩⟩
    · exfalso
      have c : mem (2000 + (nI 0).toNatClampNeg) ≤ nI e := c
      rw [e0, nLe (by omega) (by omega)] at c
      omega
    · have F : ztfr mem (upd mem (2000 + (nI 80 + nI e).toNatClampNeg) (mem (3800 + (nI e).toNatClampNeg))) := fun x hx => upd_ne (by omega)
      have k1 := ih (e + 1) (upd mem (2000 + (nI 80 + nI e).toNatClampNeg) (mem (3800 + (nI e).toNatClampNeg))) v3 (by omega) (hb.same w0 (fun j hj => F _ (by omega))) (hb2.same w0 (fun j hj => upd_ne (by omega))) (fun j hj => by rw [F _ (by omega)]; exact hO j hj) (fun j hj => ?_) (fun m2 f2 => q m2 (F.tr f2))
      · rw [show nI (e + 1) = nI e + nI 1 from (nI_add e 1).symm] at k1
        exact k1
      · by_cases z : j = e
        · subst z; rw [ea, show 2000 + 43 + 37 + j = 2080 + j by omega, upd_eq]; exact eo
        · rw [upd_ne (by omega)]; exact hr j (by omega)
theorem ok_waitsBy {o : Nat → Nat} (hn : n ≤ 40) (hd : 5 < d) (hk : zML lk) (hr : zRw mem 0 g) (wf : zWF g) (h6 : g 6 ≤ 999) (ho : ∀ j, j < g 0 → o j < g 0) (hO : ∀ j, j < g 0 → mem (3800 + j) = nI (o j)) (q : ∀ mem', ztfr mem mem' → Q (some (.int (nI (zco o n g)))) mem') : zOk X d 190 [.ref 1000, .int (nI n)] mem lk L lk L Q := by
  have w0 := wf.1
  refine zOk_do 60 (tbl := tX8_waitsBy) zck_190 rfl (by omega) (h := ?_)
  refine ⟨rfl, ok_tries (by omega) hk.1 hr w0 (fun m1 hr1 f1 => ?_)⟩
  exact waits_ranks hn (by omega) hk wf h6 ho (g 0) 0 m1 _ (by omega) (hr.1.same w0 (fun j hj => f1 _ (by omega))) hr1.1 (fun j hj => by rw [f1 _ (by omega)]; exact hO j hj) (fun j hj => by omega) (fun m2 f2 => q m2 (f1.tr f2))
/-- the bits of those that stand in the order before -/
theorem used_loop {o : Nat → Nat} {dep : Nat} {ls : Int32} {v6 : Value} (hk : zML lk) (hdep : dep ≤ 6) (ho : ∀ j, j < dep → o j < 6) (hO : ∀ j, j < dep → mem (3800 + j) = nI (o j)) (q : ∀ v5, zE X d 191 48 [.ref 1000, .int (nI n), .int ls, .int (nI dep), .int (nI (zub o dep)), .int v5, v6] [] mem lk L lk L Q) : ∀ m k, k + m = dep → zE X d 191 22 [.ref 1000, .int (nI n), .int ls, .int (nI dep), .int (nI (zub o k)), .int (nI k), v6] [] mem lk L lk L Q := by
  intro m
  induction m with
  | zero =>
    intro k hk1
    have c1 : nI dep ≤ nI k := by rw [nLe (by omega) (by omega)]; omega
    have q1 := q (nI k)
    rw [show k = dep by omega] at c1 q1 ⊢
    refine zgoc [48] 60 22 (tbl := tX8_bestRanks) zck_191 rfl (h := ?_)
    exact ⟨fun _ => q1, fun c => absurd c1 c⟩
  | succ m ih =>
    intro k hk1
    have c1 : ¬ nI dep ≤ nI k := by rw [nLe (by omega) (by omega)]; omega
    have ek : (nI k).toNatClampNeg = k := nC (by omega)
    have eo : mem (3800 + (nI k).toNatClampNeg) = nI (o k) := by rw [ek]; exact hO k (by omega)
    have hlt := zub_lt k (fun j hj => ho j (by omega))
    have k1 := ih (k + 1) (by omega)
    have h6 := ho k (by omega)
    rw [show nI (k + 1) = nI k + nI 1 from (nI_add k 1).symm, show nI (zub o (k + 1)) = nI (zub o k) ||| nI 1 <<< (nI (o k) &&& 31) by rw [zor_t (o k) (by omega) _ (by omega)]; rfl, ← eo] at k1
    refine zgoc [48] 60 22 (tbl := tX8_bestRanks) zck_191 rfl (h := ?_)
    exact ⟨fun c => absurd c c1, fun _ => ⟨rfl, _, hk.o, Or.inl rfl, in7 (by omega), k1⟩⟩
def zBm (mem : zMem) (N : Nat) (S : Nat × (Nat → Int32)) : Prop := ∀ j, j < N → mem (3810 + j) = S.2 j
theorem zBm.fr {m1 m2 : zMem} {N : Nat} {S : Nat × (Nat → Int32)} (h : zBm m1 N S) (hN : N ≤ 6) (hf : ∀ x, 3810 ≤ x → x < 3816 → m2 x = m1 x) : zBm m2 N S := fun j hj => by rw [hf _ (by omega) (by omega)]; exact h j hj
/-- at the top: the bits first -/
theorem top_48 {o : Nat → Nat} {dep : Nat} {ls : Int32} {v4 v5 v6 : Value} (hk : zML lk) (hdep : dep ≤ 6) (ho : ∀ j, j < dep → o j < 6) (hO : ∀ j, j < dep → mem (3800 + j) = nI (o j)) (q : ∀ v5, zE X d 191 48 [.ref 1000, .int (nI n), .int ls, .int (nI dep), .int (nI (zub o dep)), .int v5, v6] [] mem lk L lk L Q) : zE X d 191 12 [.ref 1000, .int (nI n), .int ls, .int (nI dep), v4, v5, v6] [] mem lk L lk L Q := by
  have c1 : ¬ nI dep < (0 : Int32) := by rw [i_lt, i_0, nT (by omega)]; omega
  refine zE_do 60 12 (tbl := tX8_bestRanks) zck_191 rfl (h := ?_)
  exact ⟨fun c => absurd c c1, fun _ => used_loop hk hdep ho hO q dep 0 (by omega)⟩
theorem copy_loop {c N : Nat} {o : Nat → Nat} {dl : Int32} {v4 : Value} {S : Nat × (Nat → Int32)} (hk : zML lk) (wf : zWF g) (hN : N = g 0) (hc : c < 1000) (hS31 : S.1 < 2147483648) : ∀ m e mem, e + m = N → zRw mem 0 g → (∀ j, j < N → mem (3800 + j) = nI (o j)) → (c < S.1 → ∀ j, j < e → mem (3810 + j) = nI (o j)) → (¬ c < S.1 → zBm mem N S ∧ e = 0) →
    (∀ mem' v5 v6, (∀ j, j < N → mem' (3800 + j) = nI (o j)) → zBm mem' N (if c < S.1 then (c, fun j => if j < N then nI (o j) else nI 0) else S) → znfr mem mem' → zE X d 191 12 [.ref 1000, .int (nI n), .int (nI (if c < S.1 then (c, fun j => if j < N then nI (o j) else nI 0) else S).1), .int (dl + -(nI 1)), v4, v5, v6] [] mem' lk L lk L Q) →
    zE X d 191 68 [.ref 1000, .int (nI n), .int (nI S.1), .int dl, v4, .int (nI c), .int (nI e)] [] mem lk L lk L Q := by
  have w0 := wf.1
  have fin : ∀ mem e, (∀ j, j < N → mem (3800 + j) = nI (o j)) → zBm mem N (if c < S.1 then (c, fun j => if j < N then nI (o j) else nI 0) else S) → (∀ mem' v5 v6, (∀ j, j < N → mem' (3800 + j) = nI (o j)) → zBm mem' N (if c < S.1 then (c, fun j => if j < N then nI (o j) else nI 0) else S) → znfr mem mem' → zE X d 191 12 [.ref 1000, .int (nI n), .int (nI (if c < S.1 then (c, fun j => if j < N then nI (o j) else nI 0) else S).1), .int (dl + -(nI 1)), v4, v5, v6] [] mem' lk L lk L Q) → zE X d 191 105 [.ref 1000, .int (nI n), .int (nI S.1), .int dl, v4, .int (nI c), .int (nI e)] [] mem lk L lk L Q := fun mem e hO hB q => by
    have k1 := fun v5 v6 => q mem v5 v6 hO hB znfr.rf
    refine zE_do 60 105 (tbl := tX8_bestRanks) zck_191 rfl (h := ?_)
    refine ⟨fun cc => ?_, fun cc => ?_⟩
    · have cc : nI S.1 ≤ nI c := cc
      rw [nLe (by omega) (by omega)] at cc
      rw [if_neg (by omega)] at k1
      exact k1 _ _
    · have cc : ¬ nI S.1 ≤ nI c := cc
      rw [nLe (by omega) (by omega)] at cc
      rw [if_pos (by omega)] at k1
      exact k1 _ _
  intro m
  induction m with
  | zero =>
    intro e mem he hr hO hB hB2 q
    have e0 : mem (2000 + (nI 0).toNatClampNeg) = nI (g 0) := hr.1.k 0 (by omega)
    refine zgoc [105] 60 68 (tbl := tX8_bestRanks) zck_191 rfl (h := ?_)
    refine ⟨rfl, _, hk.1, Or.inl rfl, zwi0 (by omega), fun _ => fin mem e hO ?_ q, fun cc => ?_⟩
    · by_cases z : c < S.1
      · rw [if_pos z]
        intro j hj
        show mem (3810 + j) = if j < N then nI (o j) else nI 0
        rw [if_pos hj]; exact hB z j (by omega)
      · rw [if_neg z]; exact (hB2 z).1
    · exfalso
      have cc : ¬ mem (2000 + (nI 0).toNatClampNeg) ≤ nI e := cc
      rw [e0, nLe (by omega) (by omega)] at cc
      omega
  | succ m ih =>
    intro e mem he hr hO hB hB2 q
    have e0 : mem (2000 + (nI 0).toNatClampNeg) = nI (g 0) := hr.1.k 0 (by omega)
    have ee : (nI e).toNatClampNeg = e := nC (by omega)
    refine zgoc [105] 60 68 (tbl := tX8_bestRanks) zck_191 rfl (h := ?_)
    refine ⟨rfl, _, hk.1, Or.inl rfl, zwi0 (by omega), fun cc => ?_, fun _ => ⟨fun cc => fin mem e hO ?_ q, fun cc => ⟨rfl, _, hk.bo, rfl, _, hk.o, Or.inl rfl, in7 (by omega), rfl, in6b (by omega), ?_⟩⟩⟩
    · exfalso
      have cc : mem (2000 + (nI 0).toNatClampNeg) ≤ nI e := cc
      rw [e0, nLe (by omega) (by omega)] at cc
      omega
    · have cc : nI S.1 ≤ nI c := cc
      rw [nLe (by omega) (by omega)] at cc
      rw [if_neg (by omega)]; exact (hB2 (by omega)).1
    · have cc : ¬ nI S.1 ≤ nI c := cc
      rw [nLe (by omega) (by omega)] at cc
      have F : znfr mem (upd mem (3810 + (nI e).toNatClampNeg) (mem (3800 + (nI e).toNatClampNeg))) := znfr.b (by omega)
      have k1 := ih (e + 1) (upd mem (3810 + (nI e).toNatClampNeg) (mem (3800 + (nI e).toNatClampNeg))) (by omega) (hr.same w0 (fun j hj => upd_ne (by omega))) (fun j hj => by rw [upd_ne (by omega)]; exact hO j hj) (fun _ j hj => ?_) (fun z => absurd (by omega) z) (fun m2 v5 v6 a1 a2 f2 => q m2 v5 v6 a1 a2 (F.tr f2))
      · rw [show nI (e + 1) = nI e + nI 1 from (nI_add e 1).symm] at k1
        exact k1
      · by_cases z : j = e
        · subst z; rw [ee, upd_eq]; exact hO j (by omega)
        · rw [upd_ne (by omega)]; exact hB (by omega) j (by omega)
theorem node {N : Nat} (hN : N = g 0) (h0 : 0 < g 0) (hn : n ≤ 40) (hd : 6 < d) (hk : zML lk) (wf : zWF g) (h6 : g 6 ≤ 999) : ∀ m dep o S mem v4 v5 v6, dep + m = N → zvd N o dep → (∀ j, j < dep → mem (3800 + j) = nI (o j)) → (m ≠ 0 → mem (3800 + dep) = -(nI 1)) → zBm mem N S → zRw mem 0 g → S.1 < 2147483648 →
    (∀ mem' v4 v5 v6, (∀ j, j < dep → mem' (3800 + j) = nI (o j)) → zBm mem' N (zsr (fun o => zco o n g) N (fun _ _ _ => false) m o dep S) → znfr mem mem' → zE X d 191 12 [.ref 1000, .int (nI n), .int (nI (zsr (fun o => zco o n g) N (fun _ _ _ => false) m o dep S).1), .int (nI dep + -(nI 1)), v4, v5, v6] [] mem' lk L lk L Q) →
    zE X d 191 12 [.ref 1000, .int (nI n), .int (nI S.1), .int (nI dep), v4, v5, v6] [] mem lk L lk L Q := by
  have w0 := wf.1
  intro m
  induction m with
  | zero =>
    intro dep o S mem v4 v5 v6 hm hv hO _ hB hr hS31 K
    have hv6 : ∀ j, j < dep → o j < 6 := fun j hj => by have := hv.1 j hj; omega
    have hcl := zco_le (o := o) n g w0
    refine top_48 hk (by omega) hv6 hO (fun v5 => ?_)
    have e0 : mem (2000 + (nI 0).toNatClampNeg) = nI (g 0) := hr.1.k 0 (by omega)
    refine zE_do 60 48 (tbl := tX8_bestRanks) zck_191 rfl (h := ?_)
    refine ⟨rfl, _, hk.1, Or.inl rfl, zwi0 (by omega), fun cc => ?_, fun _ => ⟨rfl, ok_waitsBy hn (by omega) hk hr wf h6 (fun j hj => by have := hv.1 j (by omega); omega) (fun j hj => hO j (by omega)) (fun m1 f1 => ?_)⟩⟩
    · exfalso
      have cc : ¬ nI dep = mem (2000 + (nI 0).toNatClampNeg) := cc
      rw [e0] at cc
      exact cc (by rw [show dep = g 0 by omega])
    · exact copy_loop hk wf hN (by omega) hS31 N 0 m1 (by omega) (hr.same w0 (fun j hj => f1 _ (by omega))) (fun j hj => by rw [f1 _ (by omega)]; exact hO j (by omega)) (fun _ j hj => by omega) (fun _ => ⟨hB.fr (by omega) (fun x _ _ => f1 x (by omega)), rfl⟩) (fun m2 v5 v6 a1 a2 f2 => K m2 _ v5 v6 (fun j hj => a1 j (by omega)) a2 (f1.n.tr f2))
  | succ m ih =>
    intro dep o S0 mem0 v4 v5 v6 hm hv hO0 hcnt hB0 hr0 hS031 K
    have hv6 : ∀ j, j < dep → o j < 6 := fun j hj => by have := hv.1 j hj; omega
    have hub := zub_lt dep hv6
    have ed : (nI dep).toNatClampNeg = dep := nC (by omega)
    -- from the top to the search for the next
    have to134 : ∀ mem v4 v5 v6 ls, (∀ j, j < dep → mem (3800 + j) = nI (o j)) → zRw mem 0 g → zE X d 191 134 [.ref 1000, .int (nI n), .int ls, .int (nI dep), .int (nI (zub o dep)), .int (mem (3800 + dep) + nI 1), v6] [] mem lk L lk L Q → zE X d 191 12 [.ref 1000, .int (nI n), .int ls, .int (nI dep), v4, v5, v6] [] mem lk L lk L Q := fun mem v4 v5 v6 ls hO hr q => by
      refine top_48 hk (by omega) hv6 hO (fun v5 => ?_)
      have e0 : mem (2000 + (nI 0).toNatClampNeg) = nI (g 0) := hr.1.k 0 (by omega)
      rw [show mem (3800 + dep) = mem (3800 + (nI dep).toNatClampNeg) by rw [ed]] at q
      refine zE_do 60 48 (tbl := tX8_bestRanks) zck_191 rfl (h := ?_)
      refine ⟨rfl, _, hk.1, Or.inl rfl, zwi0 (by omega), fun _ => ⟨rfl, _, hk.o, Or.inl rfl, in7 (by omega), q⟩, fun cc => ?_⟩
      exfalso
      have cc : nI dep = mem (2000 + (nI 0).toNatClampNeg) := cc
      rw [e0, nEq (by omega) (by omega)] at cc
      omega
    have P : ∀ r i S mem v6, i + r = N → (∀ j, j < dep → mem (3800 + j) = nI (o j)) → zBm mem N S → zRw mem 0 g → S.1 < 2147483648 → znfr mem0 mem → zfb2 (fun d S => if zud o dep d = true ∨ (false : Bool) = true then S else zsr (fun o => zco o n g) N (fun _ _ _ => false) m (va_up o dep d) (dep + 1) S) r i S = zsr (fun o => zco o n g) N (fun _ _ _ => false) (m + 1) o dep S0 → zE X d 191 134 [.ref 1000, .int (nI n), .int (nI S.1), .int (nI dep), .int (nI (zub o dep)), .int (nI i), v6] [] mem lk L lk L Q := by
      intro r
      induction r with
      | zero =>
        intro i S mem v6 hi hO hB hr hS31 F hz
        have e0 : mem (2000 + (nI 0).toNatClampNeg) = nI (g 0) := hr.1.k 0 (by omega)
        have hz : S = zsr (fun o => zco o n g) N (fun _ _ _ => false) (m + 1) o dep S0 := hz
        have F2 : znfr mem (upd mem (3800 + (nI dep).toNatClampNeg) (nI i)) := znfr.o (by omega)
        have e02 : upd mem (3800 + (nI dep).toNatClampNeg) (nI i) (2000 + (nI 0).toNatClampNeg) = nI (g 0) := by rw [F2 _ (by show ¬ (3800 ≤ 2000 ∧ _); omega) (by show ¬ (3810 ≤ 2000 ∧ _); omega) (by show ¬ (2043 ≤ 2000 ∧ _); omega)]; exact e0
        have hiN : i = g 0 := by omega
        have k1 := fun v4 v5 v6 => K (upd mem (3800 + (nI dep).toNatClampNeg) (nI i)) v4 v5 v6 (fun j hj => by rw [upd_ne (by omega)]; exact hO j hj) (by rw [← hz]; exact hB.fr (by omega) (fun x _ _ => upd_ne (by omega))) (F.tr F2)
        rw [← hz] at k1
        refine zgoc [161] 60 134 (tbl := tX8_bestRanks) zck_191 rfl (h := ?_)
        refine ⟨rfl, _, hk.1, Or.inl rfl, zwi0 (by omega), fun _ => ?_, fun cc => ?_⟩
        · refine zE_do 60 161 (tbl := tX8_bestRanks) zck_191 rfl (h := ?_)
          refine ⟨rfl, _, hk.o, rfl, in7 (by omega), rfl, _, hk.1, Or.inl rfl, zwi0 (by omega), fun cc => ?_, fun _ => ⟨rfl, _, hk.1, Or.inl rfl, zwi0 (by omega), fun _ => k1 _ _ _, fun cc => ?_⟩⟩
          · exfalso
            have cc : ¬ nI i = upd mem (3800 + (nI dep).toNatClampNeg) (nI i) (2000 + (nI 0).toNatClampNeg) := cc
            rw [e02, hiN] at cc
            exact cc rfl
          · exfalso
            have cc : ¬ upd mem (3800 + (nI dep).toNatClampNeg) (nI i) (2000 + (nI 0).toNatClampNeg) ≤ nI i := cc
            rw [e02, nLe (by omega) (by omega)] at cc
            omega
        · exfalso
          have cc : ¬ mem (2000 + (nI 0).toNatClampNeg) ≤ nI i := cc
          rw [e0, nLe (by omega) (by omega)] at cc
          omega
      | succ r ihr =>
        intro i S mem v6 hi hO hB hr hS31 F hz
        have e0 : mem (2000 + (nI 0).toNatClampNeg) = nI (g 0) := hr.1.k 0 (by omega)
        have bb := zub_bit (o := o) (d := i) (by omega) dep hv6
        have hz : zfb2 (fun d S => if zud o dep d = true ∨ (false : Bool) = true then S else zsr (fun o => zco o n g) N (fun _ _ _ => false) m (va_up o dep d) (dep + 1) S) r (i + 1) (if zud o dep i = true ∨ (false : Bool) = true then S else zsr (fun o => zco o n g) N (fun _ _ _ => false) m (va_up o dep i) (dep + 1) S) = zsr (fun o => zco o n g) N (fun _ _ _ => false) (m + 1) o dep S0 := hz
        refine zgoc [161] 60 134 (tbl := tX8_bestRanks) zck_191 rfl (h := ?_)
        refine ⟨rfl, _, hk.1, Or.inl rfl, zwi0 (by omega), fun cc => ?_, fun _ => ok_has (by omega) hub (by omega) (fun hb1 => zT_eq ?_) (fun hb0 => zF_eq ?_)⟩
        · exfalso
          have cc : mem (2000 + (nI 0).toNatClampNeg) ≤ nI i := cc
          rw [e0, nLe (by omega) (by omega)] at cc
          omega
        · have hu : zud o dep i = true := by
            by_cases z : zud o dep i = true
            · exact z
            · rw [if_neg z] at bb; omega
          rw [if_pos (Or.inl hu)] at hz
          have k1 := ihr (i + 1) S mem v6 (by omega) hO hB hr hS31 F hz
          rw [show nI (i + 1) = nI i + nI 1 from (nI_add i 1).symm] at k1
          exact k1
        · have hu : ¬ zud o dep i = true := fun y => by rw [if_pos y] at bb; omega
          rw [if_neg (fun y => y.elim hu (fun w => by cases w))] at hz
          have F2 : znfr mem (upd mem (3800 + (nI dep).toNatClampNeg) (nI i)) := znfr.o (by omega)
          have e02 : upd mem (3800 + (nI dep).toNatClampNeg) (nI i) (2000 + (nI 0).toNatClampNeg) = nI (g 0) := by rw [F2 _ (by show ¬ (3800 ≤ 2000 ∧ _); omega) (by show ¬ (3810 ≤ 2000 ∧ _); omega) (by show ¬ (2043 ≤ 2000 ∧ _); omega)]; exact e0
          have ed1 : (nI dep + nI 1).toNatClampNeg = dep + 1 := by rw [nI_add, nC (by omega)]
          have F3 : znfr mem (upd (upd mem (3800 + (nI dep).toNatClampNeg) (nI i)) (3800 + (nI dep + nI 1).toNatClampNeg) (-(nI 1))) := F2.tr (znfr.o (by omega))
          have hmono := zsr_mono (C := fun o => zco o n g) (N := N) (nd := fun _ _ _ => false) m (va_up o dep i) (dep + 1) S
          have k1 := fun v4 v5 v6 => ih (dep + 1) (va_up o dep i) S (upd (upd mem (3800 + (nI dep).toNatClampNeg) (nI i)) (3800 + (nI dep + nI 1).toNatClampNeg) (-(nI 1))) v4 v5 v6 (by omega) (hv.up (by omega) hu) (fun j hj => by
            rw [upd_ne (by omega)]
            by_cases z : j = dep
            · subst z; rw [zup_eq, ed, upd_eq]
            · rw [zup_ne z, upd_ne (by omega)]; exact hO j (by omega)) (fun _ => by rw [ed1, upd_eq]) (hB.fr (by omega) (fun x _ _ => by rw [upd_ne (by omega), upd_ne (by omega)])) (hr.same w0 (fun j hj => F3 _ (by omega) (by omega) (by omega))) hS31 (fun m2 w4 w5 w6 a1 a2 f2 => by
            have r2 : zRw m2 0 g := hr.same w0 (fun j hj => (F3.tr f2) _ (by omega) (by omega) (by omega))
            have a1' : ∀ j, j < dep → m2 (3800 + j) = nI (o j) := fun j hj => by rw [a1 j (by omega), zup_ne (by omega)]
            have ai : m2 (3800 + dep) = nI i := by rw [a1 dep (by omega), zup_eq]
            rw [← Int32.sub_eq_add_neg, nsub (show 1 ≤ dep + 1 by omega) (by omega), show dep + 1 - 1 = dep by omega]
            refine to134 m2 w4 w5 w6 _ a1' r2 ?_
            rw [ai, nI_add]
            exact ihr (i + 1) _ m2 w6 (by omega) a1' a2 r2 (by omega) ((F.tr F3).tr f2) hz)
          rw [show nI (dep + 1) = nI dep + nI 1 from (nI_add dep 1).symm] at k1
          refine zE_do 60 161 (tbl := tX8_bestRanks) zck_191 rfl (h := ?_)
          refine ⟨rfl, _, hk.o, rfl, in7 (by omega), rfl, _, hk.1, Or.inl rfl, zwi0 (by omega), fun _ => ⟨rfl, _, hk.1, Or.inl rfl, zwi0 (by omega), fun cc => ?_, fun _ => ⟨rfl, _, hk.o, rfl, ?_, k1 _ _ _⟩⟩, fun cc => ?_⟩
          · exfalso
            have cc : upd mem (3800 + (nI dep).toNatClampNeg) (nI i) (2000 + (nI 0).toNatClampNeg) ≤ nI i := cc
            rw [e02, nLe (by omega) (by omega)] at cc
            omega
          · rw [nI_add]; exact in7 (by omega)
          · exfalso
            have cc : nI i = upd mem (3800 + (nI dep).toNatClampNeg) (nI i) (2000 + (nI 0).toNatClampNeg) := cc
            rw [e02, nEq (by omega) (by omega)] at cc
            omega
    refine to134 mem0 v4 v5 v6 _ hO0 hr0 ?_
    rw [hcnt (by omega), show -(nI 1) + nI 1 = nI 0 by decide]
    refine P N 0 S0 mem0 v6 (by omega) hO0 hB0 hr0 hS031 znfr.rf ?_
    have hzz := zfb2_eq (fun d S => if zud o dep d = true ∨ (false : Bool) = true then S else zsr (fun o => zco o n g) N (fun _ _ _ => false) m (va_up o dep d) (dep + 1) S) S0 N 0
    rw [Nat.zero_add] at hzz
    exact hzz
theorem ok_bestRanks (h0 : 0 < g 0) (hn : n ≤ 40) (hd : 6 < d) (hk : zML lk) (wf : zWF g) (h6 : g 6 ≤ 999) (hr : zRw mem 0 g) (q : ∀ mem', zBm mem' (g 0) (zRes g n) → znfr mem mem' → Q (some (.int (nI (zRes g n).1))) mem') : zOk X d 191 [.ref 1000, .int (nI n)] mem lk L lk L Q := by
  have w0 := wf.1
  have F : znfr mem (upd mem (3800 + (nI 0).toNatClampNeg) (-(nI 1))) := znfr.o (by show 3800 ≤ 3800 ∧ 3800 < 3807; omega)
  have hz := zRes_all (g := g) (n := n) (S := (100000000, fun j => upd mem (3800 + (nI 0).toNatClampNeg) (-(nI 1)) (3810 + j))) (o := fun e => e) wf hn (by show 1000 ≤ 100000000; omega)
  have k1 := fun v4 v5 v6 => node (X := X) (d := d) (L := L) (Q := Q) (n := n) (N := g 0) rfl h0 hn hd hk wf h6 (g 0) 0 (fun e => e) (100000000, fun j => upd mem (3800 + (nI 0).toNatClampNeg) (-(nI 1)) (3810 + j)) (upd mem (3800 + (nI 0).toNatClampNeg) (-(nI 1))) v4 v5 v6 (by omega) ⟨fun j hj => by omega, fun i j hi => by omega⟩ (fun j hj => by omega) (fun _ => upd_eq) (fun j hj => rfl) (hr.same w0 (fun j hj => F _ (by omega) (by omega) (by omega))) (by show 100000000 < 2147483648; omega) (fun m2 w4 w5 w6 _ a2 f2 => by
    rw [hz] at a2 ⊢
    refine zE_do 60 12 (tbl := tX8_bestRanks) zck_191 rfl (h := ?_)
    exact ⟨fun _ => ⟨rfl, rfl, q m2 a2 (F.tr f2)⟩, fun c => absurd (show nI 0 + -(nI 1) < (0 : Int32) by decide) c⟩)
  refine zOk_do 60 (tbl := tX8_bestRanks) zck_191 rfl (by omega) (h := ?_)
  exact ⟨rfl, _, hk.o, rfl, in7 (by omega), k1 _ _ _⟩
theorem ok_mranks {x y : Int32} (hd : 8 < d) (hk : zML lk) (hr : zRw mem 0 g) (hN : zNow g)
    (qS : g 0 = 0 → Q (some (.int (-(nI 1000002)))) mem) (qB : 0 < g 0 → ((x.toInt < 1 ∨ 40 < x.toInt) ∨ y.toInt < -1) → Q (some (.int (-(nI 1000001)))) mem)
    (qN : ∀ n, 0 < g 0 → x = nI n → 1 ≤ n ∧ n ≤ 40 → (g 0 : Int) ≤ y.toInt → ∀ mem', znfr mem mem' → Q (some (.int (-(nI 1000000)))) mem')
    (q : ∀ n, 0 < g 0 → x = nI n → 1 ≤ n ∧ n ≤ 40 → -1 ≤ y.toInt → y.toInt < (g 0 : Int) → ∀ mem', znfr mem mem' → Q (some (.int (zrankA g n y))) mem') : zOk X d 192 [.ref 1000, .int x, .int y] mem lk L lk L Q := by
  refine zOk_do 90 (tbl := tX8_ranks) zck_192 rfl (by omega) (h := ?_)
  refine ⟨rfl, ok_misHouse (by omega) hk.1 hr.1 hN.le.1 (fun h0 => zT_ne ?_) (fun h0 => zF_ne ⟨rfl, rfl, qS h0⟩)⟩
  have wf := hN.wf h0
  have w0 := wf.1.1
  refine ok_min (a := 1) (b := 40) (by omega) (by omega) (by omega) (fun c => zF_eq ⟨rfl, rfl, qB h0 (Or.inl (by omega))⟩) (fun n h1 h2 ex => zT_eq ⟨fun c => ?_, fun c => ⟨rfl, rfl, ?_⟩⟩)
  · have c : -(nI 1) ≤ y := c
    rw [i_le, zn1T] at c
    have pN := qN n h0 ex ⟨h1, h2⟩
    have p := q n h0 ex ⟨h1, h2⟩ c
    subst ex
    refine ⟨rfl, ok_bestRanks h0 h2 (by omega) hk wf.1 wf.2 hr (fun m1 a1 f1 => ⟨fun c3 => ⟨rfl, _, hk.1, Or.inl rfl, zwi0 (by omega), fun c4 => ⟨rfl, rfl, ?_⟩, fun c4 => ?_⟩, fun c3 => ⟨rfl, rfl, ?_⟩⟩)⟩
    · have c4 : m1 (2000 + (nI 0).toNatClampNeg) ≤ y := c4
      have e0 : m1 (2000 + (nI 0).toNatClampNeg) = nI (g 0) := (hr.same w0 (fun j hj => f1 _ (by omega) (by omega) (by omega))).1.k 0 (by omega)
      rw [e0, i_le, nT (by omega)] at c4
      exact pN c4 m1 f1
    · have c3 : 0 ≤ y := c3
      have c4 : ¬ m1 (2000 + (nI 0).toNatClampNeg) ≤ y := c4
      have e0 : m1 (2000 + (nI 0).toNatClampNeg) = nI (g 0) := (hr.same w0 (fun j hj => f1 _ (by omega) (by omega) (by omega))).1.k 0 (by omega)
      rw [e0, i_le, nT (by omega)] at c4
      rw [i_le, i_0] at c3
      have p1 := p (by omega) m1 f1
      unfold zrankA at p1
      rw [if_neg (by omega)] at p1
      rcases zix y (n := g 0) (by omega) with ⟨j, hj, ey⟩ | z
      · subst ey
        have ej : (nI j).toNatClampNeg = j := nC (by omega)
        have eb : m1 (3810 + (nI j).toNatClampNeg) = (zRes g n).2 (nI j).toNatClampNeg := by rw [ej]; exact a1 j hj
        rw [← eb] at p1
        exact ⟨rfl, _, hk.bo, Or.inl rfl, in6b (by omega), rfl, rfl, p1⟩
      · omega
    · have c3 : ¬ 0 ≤ y := c3
      rw [i_le, i_0] at c3
      have p1 := p (by omega) m1 f1
      unfold zrankA at p1
      rw [if_pos (by omega)] at p1
      exact p1
  · have c : ¬ -(nI 1) ≤ y := c
    rw [i_le, zn1T] at c
    exact qB h0 (Or.inr (by omega))
end MK
