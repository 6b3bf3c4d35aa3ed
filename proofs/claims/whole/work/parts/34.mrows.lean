/-! the reference: against, row, set, copy, drop -/
def zMR (mem : zMem) (rl rn : Nat → Nat) (ri : Nat → Int32) : Prop :=
  (∀ k, k < 8 → (rl k = 99 → mem (3420 + k) = -(nI 1)) ∧ (rl k ≠ 99 → mem (3420 + k) = nI (rn k) ∧ mem (3430 + k) = nI (rl k))) ∧ ∀ i, i < 320 → mem (3440 + i) = ri i
theorem zMR.st {mem : zMem} {rl rn : Nat → Nat} {ri : Nat → Int32} {x : Nat} {v : Int32} (h : zMR mem rl rn ri) (hx : x < 3420 ∨ 3760 ≤ x) : zMR (upd mem x v) rl rn ri :=
  ⟨fun k hk => by rw [upd_ne (by omega), upd_ne (by omega)]; exact h.1 k hk, fun i hi => by rw [upd_ne (by omega)]; exact h.2 i hi⟩
theorem zMR.fr {mem mem' : zMem} {rl rn : Nat → Nat} {ri : Nat → Int32} (h : zMR mem rl rn ri) (hx : ∀ x, 3420 ≤ x → x < 3760 → mem' x = mem x) : zMR mem' rl rn ri :=
  ⟨fun k hk => by rw [hx _ (by omega) (by omega), hx _ (by omega) (by omega)]; exact h.1 k hk, fun i hi => by rw [hx _ (by omega) (by omega)]; exact h.2 i hi⟩
theorem zML.a {lk : zLk} (h : zML lk) : lk 1000 = some 2000 := h.1
theorem zML.b {lk : zLk} (h : zML lk) : lk 1006 = some 3420 := h.2.2.1
theorem zML.c {lk : zLk} (h : zML lk) : lk 1007 = some 3430 := h.2.2.2.1
theorem zML.d {lk : zLk} (h : zML lk) : lk 1008 = some 3440 := h.2.2.2.2.1
theorem zML.e {lk : zLk} (h : zML lk) : lk 1009 = some 3760 := h.2.2.2.2.2.1
theorem la_T (i n : Int32) : (i.toInt64 + n.toInt64).toInt = i.toInt + n.toInt := by
  rw [Int64.toInt_add, il_T, il_T]
  have h1 := i.toInt_lt
  have h2 := n.toInt_lt
  have h3 := i.le_toInt
  have h4 := n.le_toInt
  exact Int.bmod_eq_of_le (by omega) (by omega)
theorem cmp_le (x z : Int64) : lg_cmp x z ≤ 0 ↔ x.toInt ≤ z.toInt := by
  have h := cmp_gt x z
  rw [i_lt, i_0] at h
  rw [i_le, i_0]
  constructor
  · intro q
    exact Int.not_lt.mp (fun z => by have := h.mpr z; omega)
  · intro q
    exact Int.not_lt.mp (fun z => by have := h.mp z; omega)
section MR
variable {X d : Nat} {mem : zMem} {lk : zLk} {L : List Nat} {Q : Option Value → zMem → Prop} {rl rn : Nat → Nat} {ri : Nat → Int32}
theorem in320 {X s : Nat} (h : s < 320) : vp_in (nI s) (ln X 3440) := vp_in_nI h (by show 320 < 2 ^ 31; decide)
theorem ok_against {r : Nat} {i n : Int32} (hd : 0 < d) (hk : zML lk) (hR : zMR mem rl rn ri) (ho : zRowOk rl rn) (hr : r < 8) (q1 : rl r = 99 → Q (some (.int (nI 1))) mem) (q2 : rl r ≠ 99 → zNoCov (rn r) i n → Q (some (.int (nI 2))) mem) (q0 : rl r ≠ 99 → ∀ a b, i = nI a → n = nI b → a + b ≤ rn r → Q (some (.int (nI 0))) mem) : zOk X d 141 [.ref 1000, .int (nI r), .int i, .int n] mem lk L lk L Q := by
  have ea : (nI r).toNatClampNeg = r := nC (by omega)
  have nm : (-(nI 1)).toInt = -1 := by decide
  refine zOk_do 60 (tbl := tX8_against) zck_141 rfl hd (h := ?_)
  refine ⟨rfl, _, hk.b, Or.inl rfl, in8 3420 rfl hr, fun c => ?_, fun c => ⟨rfl, rfl, q1 (Decidable.byContradiction fun z => ?_)⟩⟩
  · have c : 0 ≤ mem (3420 + (nI r).toNatClampNeg) := c
    rw [ea] at c
    have hp : rl r ≠ 99 := fun z => by
      rw [(hR.1 r hr).1 z, i_le, i_0, nm] at c; omega
    have h40 := (ho r hr hp).2
    have el : mem (3420 + (nI r).toNatClampNeg) = nI (rn r) := by rw [ea]; exact ((hR.1 r hr).2 hp).1
    refine ⟨fun c2 => ⟨rfl, rfl, q2 hp ?_⟩, fun c2 => ⟨fun c3 => ⟨rfl, rfl, q2 hp ?_⟩, fun c3 => ⟨rfl, _, hk.b, Or.inl rfl, in8 3420 rfl hr, fun c4 => ⟨rfl, rfl, ?_⟩, fun c4 => ⟨rfl, rfl, q2 hp ?_⟩⟩⟩⟩
    · have c2 : i < 0 := c2
      rw [i_lt, i_0] at c2; exact Or.inl c2
    · have c3 : n < 0 := c3
      rw [i_lt, i_0] at c3; exact Or.inr (Or.inl c3)
    · have c2 : ¬ i < 0 := c2
      have c3 : ¬ n < 0 := c3
      rw [i_lt, i_0] at c2 c3
      have c4 : lg_cmp (i.toInt64 + n.toInt64) (mem (3420 + (nI r).toNatClampNeg)).toInt64 ≤ 0 := c4
      rw [cmp_le, la_T, il_T, el, nT (by omega)] at c4
      refine q0 hp i.toInt.toNat n.toInt.toNat ?_ ?_ (by omega)
      · rw [i_eq, nT (by omega)]; omega
      · rw [i_eq, nT (by omega)]; omega
    · have c4 : ¬ lg_cmp (i.toInt64 + n.toInt64) (mem (3420 + (nI r).toNatClampNeg)).toInt64 ≤ 0 := c4
      rw [cmp_le, la_T, il_T, el, nT (by omega)] at c4
      exact Or.inr (Or.inr (by omega))
  · have c : ¬ 0 ≤ mem (3420 + (nI r).toNatClampNeg) := c
    have h40 := (ho r hr z).2
    rw [ea, ((hR.1 r hr).2 z).1, i_le, i_0, nT (by omega)] at c
    omega
theorem mrow_loop {r l n : Nat} {lo : Nat → Nat} {no : Nat → Nat} (hk : zML lk) (hr : r < 8) (m0 : zMem) (h1 : ∀ k, k < 8 → (lo k = 99 → m0 (3420 + k) = -(nI 1)) ∧ (lo k ≠ 99 → m0 (3420 + k) = nI (no k) ∧ m0 (3430 + k) = nI (lo k))) (h2 : ∀ i, i < 320 → m0 (3440 + i) = ri i)
    (q : ∀ mem', zMR mem' lo no (zri0 ri r) → (∀ x, ¬ (3440 ≤ x ∧ x < 3760) → mem' x = m0 x) → Q (some (.int (nI n))) mem') : ∀ m i m1, i + m = 40 → (∀ j, j < 320 → m1 (3440 + j) = if 40 * r ≤ j ∧ j < 40 * r + i then nI 0 else ri j) → (∀ x, ¬ (3440 ≤ x ∧ x < 3760) → m1 x = m0 x) → zE X d 142 60 [.ref 1000, .int (nI r), .int (nI l), .int (nI n), .int (nI i)] [] m1 lk L lk L Q := by
  intro m
  induction m with
  | zero =>
    intro i m1 hi g1 g2
    have c1 : nI 40 ≤ nI i := by rw [nLe (by omega) (by omega)]; omega
    refine zE_do 40 60 (tbl := tX8_row) zck_142 rfl (h := ?_)
    refine ⟨fun _ => ⟨rfl, rfl, q m1 ⟨fun k hk8 => ?_, fun j hj => ?_⟩ g2⟩, fun c => absurd c1 c⟩
    · rw [g2 _ (by omega), g2 _ (by omega)]; exact h1 k hk8
    · rw [g1 j hj, show i = 40 by omega]; rfl
  | succ m ih =>
    intro i m1 hi g1 g2
    have c1 : ¬ nI 40 ≤ nI i := by rw [nLe (by omega) (by omega)]; omega
    have e1 : nI 40 * nI r + nI i = nI (40 * r + i) := by rw [nmul, nI_add]
    have k := ih (i + 1) (upd m1 (3440 + (40 * r + i)) (nI 0)) (by omega) (fun j hj => ?_) (fun x hx => ?_)
    · rw [← nI_1] at k
      refine zE_do 40 60 (tbl := tX8_row) zck_142 rfl (h := ?_)
      refine ⟨fun c => absurd c c1, fun _ => ⟨rfl, _, hk.d, rfl, ?_, ?_⟩⟩
      · rw [e1]; exact in320 (by omega)
      · have a1 : (nI 40 * nI r + nI i).toNatClampNeg = 40 * r + i := by rw [e1]; exact nC (by omega)
        rw [← a1] at k
        exact k
    · by_cases c : j = 40 * r + i
      · subst c; rw [upd_eq, if_pos (by omega)]
      · rw [upd_ne (by omega), g1 j hj]
        by_cases c2 : 40 * r ≤ j ∧ j < 40 * r + i
        · rw [if_pos c2, if_pos (by omega)]
        · rw [if_neg c2, if_neg (by omega)]
    · rw [upd_ne (by omega)]; exact g2 x hx
theorem ok_mrow {x y z : Int32} (hd : 2 < d) (hk : zML lk) (hR : zMR mem rl rn ri)
    (qB : zBadRow x y z → Q (some (.int (-(nI 1000001)))) mem) (qS : ¬ zBadRow x y z → z.toInt < 0 → Q (some (.int (-(nI 1000010) - nI 4))) (upd mem 1005 (nI 4)))
    (qG : ∀ r l n, x = nI r → y = nI l → z = nI n → r < 8 → l ≤ 2 → n ≤ 40 → ∀ mem', zMR mem' (va_up rl r l) (va_up rn r n) (zri0 ri r) → mem' 1005 = nI 0 → (∀ x, ¬ (3420 ≤ x ∧ x < 3760) → x ≠ 1005 → mem' x = mem x) → Q (some (.int (nI n))) mem') : zOk X d 142 [.ref 1000, .int x, .int y, .int z] mem lk L lk L Q := by
  have n40 : (nI 40).toInt = 40 := nT (by omega)
  refine zOk_do 60 (tbl := tX8_row) zck_142 rfl (by omega) (h := ?_)
  refine ok_misRow (by omega) (fun r hr er => zT_eq ?_) (fun c => zF_eq ⟨rfl, rfl, qB (Or.inl c)⟩)
  have hx : x.toInt = r := by rw [er]; exact nT (by omega)
  refine ok_in (by omega) (fun c1 c2 => zT_eq ?_) (fun c => zF_eq ⟨rfl, rfl, qB (Or.inr (Or.inl ?_))⟩)
  · rw [il_T, l_T (by omega)] at c1
    rw [il_T, l_T (by omega)] at c2
    obtain ⟨l, hl, el⟩ : ∃ l, l ≤ 2 ∧ y = nI l := by
      rcases zix y (n := 3) (by omega) with ⟨j, hj, e⟩ | q
      · exact ⟨j, by omega, e⟩
      · omega
    refine ⟨fun c => ⟨fun c2 => ?_, fun c2 => ⟨rfl, ok_mfinds (by omega) ⟨rfl, rfl, qS ?_ ?_⟩⟩⟩, fun c => ⟨rfl, rfl, qB (Or.inr (Or.inr ?_))⟩⟩
    · have c : z ≤ nI 40 := c
      have c2 : 0 ≤ z := c2
      rw [i_le, n40] at c
      rw [i_le, i_0] at c2
      rcases zix z (n := 41) (by omega) with ⟨n, hn, e⟩ | q
      · subst er el e
        have ea : (nI r).toNatClampNeg = r := nC (by omega)
        refine ⟨rfl, rfl, _, hk.b, rfl, in8 3420 rfl hr, rfl, _, hk.c, rfl, in8 3430 rfl hr, ?_⟩
        have k := mrow_loop (X := X) (d := d) (lk := lk) (L := L) (Q := Q) (ri := ri) (r := r) (l := l) (n := n) (lo := va_up rl r l) (no := va_up rn r n) hk hr (upd (upd (upd mem (1000 + 5) (nI 0)) (3420 + r) (nI n)) (3430 + r) (nI l)) (fun k hk8 => ?_) (fun i hi => ?_) (fun m1 g1 g2 => qG r l n rfl rfl rfl hr hl (by omega) m1 g1 ?_ (fun x hx hx2 => ?_)) 40 0 (upd (upd (upd mem (1000 + 5) (nI 0)) (3420 + r) (nI n)) (3430 + r) (nI l)) (by omega) (fun j hj => ?_) (fun _ _ => rfl)
        · rw [ea]
          exact k
        · by_cases c : k = r
          · subst c
            rw [zup_eq, zup_eq, upd_eq, upd_ne (by omega), upd_eq]
            exact ⟨fun z => by omega, fun _ => ⟨rfl, rfl⟩⟩
          · rw [zup_ne c, zup_ne c, upd_ne (by omega), upd_ne (by omega), upd_ne (by omega), upd_ne (by omega), upd_ne (by omega), upd_ne (by omega)]
            exact hR.1 k hk8
        · rw [upd_ne (by omega), upd_ne (by omega), upd_ne (by omega)]; exact hR.2 i hi
        · rw [g2 _ (by omega), upd_ne (by omega), upd_ne (by omega)]; exact upd_eq
        · rw [g2 _ (by omega), upd_ne (by omega), upd_ne (by omega), upd_ne (by omega)]
        · rw [if_neg (by omega), upd_ne (by omega), upd_ne (by omega), upd_ne (by omega)]; exact hR.2 j hj
      · omega
    · have c : z ≤ nI 40 := c
      rw [i_le, n40] at c
      unfold zBadRow; omega
    · have c2 : ¬ 0 ≤ z := c2
      rw [i_le, i_0] at c2
      omega
    · have c : ¬ z ≤ nI 40 := c
      rw [i_le, n40] at c
      omega
  · rw [il_T, l_T (by omega), l_T (by omega)] at c
    omega
theorem ok_mdrop {x : Int32} (hd : 2 < d) (hk : zML lk) (hR : zMR mem rl rn ri) (ho : zRowOk rl rn)
    (qB : zNoRow x → Q (some (.int (-(nI 1000001)))) mem) (q1 : ∀ r, r < 8 → x = nI r → rl r = 99 → Q (some (.int (-(nI 1000010) - nI 1))) (upd mem 1005 (nI 1)))
    (qG : ∀ r, r < 8 → x = nI r → rl r ≠ 99 → ∀ mem', zMR mem' (va_up rl r 99) rn ri → mem' 1005 = nI 0 → (∀ x, ¬ (3420 ≤ x ∧ x < 3760) → x ≠ 1005 → mem' x = mem x) → Q (some (.int (nI (rn r)))) mem') : zOk X d 145 [.ref 1000, .int x] mem lk L lk L Q := by
  refine zOk_do 60 (tbl := tX8_drop) zck_145 rfl (by omega) (h := ?_)
  refine ok_misRow (by omega) (fun r hr er => zT_ne ?_) (fun c => zF_ne ⟨rfl, rfl, qB c⟩)
  subst er
  have ea : (nI r).toNatClampNeg = r := nC (by omega)
  have nm : (-(nI 1)).toInt = -1 := by decide
  refine ⟨rfl, _, hk.b, Or.inl rfl, in8 3420 rfl hr, fun c => ?_, fun c => ⟨rfl, ok_mfinds (by omega) ⟨rfl, rfl, q1 r hr rfl (Decidable.byContradiction fun z => ?_)⟩⟩⟩
  · have c : 0 ≤ mem (3420 + (nI r).toNatClampNeg) := c
    rw [ea] at c
    have hp : rl r ≠ 99 := fun z => by
      rw [(hR.1 r hr).1 z, i_le, i_0, nm] at c; omega
    refine ⟨rfl, rfl, _, hk.b, Or.inl rfl, in8 3420 rfl hr, rfl, _, hk.b, rfl, in8 3420 rfl hr, rfl, rfl, ?_⟩
    show Q (some (.int (upd mem (1000 + 5) (nI 0) (3420 + (nI r).toNatClampNeg)))) (upd (upd mem (1000 + 5) (nI 0)) (3420 + (nI r).toNatClampNeg) (-(nI 1)))
    rw [ea, upd_ne (by omega), ((hR.1 r hr).2 hp).1]
    refine qG r hr rfl hp _ ⟨fun k hk8 => ?_, fun j hj => by rw [upd_ne (by omega), upd_ne (by omega)]; exact hR.2 j hj⟩ (by rw [upd_ne (by omega)]; exact upd_eq) (fun x hx hx2 => by rw [upd_ne (by omega), upd_ne (by omega)])
    by_cases c : k = r
    · subst c; rw [zup_eq, upd_eq]; exact ⟨fun _ => rfl, fun z => absurd rfl z⟩
    · rw [zup_ne c, upd_ne (by omega), upd_ne (by omega), upd_ne (by omega), upd_ne (by omega)]; exact hR.1 k hk8
  · have c : ¬ 0 ≤ mem (3420 + (nI r).toNatClampNeg) := c
    have h40 := (ho r hr z).2
    rw [ea, ((hR.1 r hr).2 z).1, i_le, i_0, nT (by omega)] at c
    omega
end MR
