/-! the reference: set, copy -/
section MR
variable {X d : Nat} {mem : zMem} {lk : zLk} {L : List Nat} {Q : Option Value → zMem → Prop} {rl rn : Nat → Nat} {ri : Nat → Int32}
theorem mset_fin {r a : Nat} {w : Int32} (hR : zMR mem rl rn ri) (hr : r < 8) (ha : a < 40)
    (qG : ∀ mem', zMR mem' rl rn (va_up ri (40 * r + a) w) → mem' 1005 = nI 0 → (∀ x, ¬ (3420 ≤ x ∧ x < 3760) → x ≠ 1005 → mem' x = mem x) → Q (some (.int w)) mem') :
    Q (some (.int (upd (upd mem (1000 + 5) (nI 0)) (3440 + (nI 40 * nI r + nI a).toNatClampNeg) w (3440 + (nI 40 * nI r + nI a).toNatClampNeg)))) (upd (upd mem (1000 + 5) (nI 0)) (3440 + (nI 40 * nI r + nI a).toNatClampNeg) w) := by
  have a1 : (nI 40 * nI r + nI a).toNatClampNeg = 40 * r + a := by rw [nmul, nI_add]; exact nC (by omega)
  rw [a1, upd_eq]
  refine qG _ ⟨fun k hk8 => ?_, fun j hj => ?_⟩ (by rw [upd_ne (by omega)]; exact upd_eq) (fun x hx hx2 => by rw [upd_ne (by omega), upd_ne (by omega)])
  · rw [upd_ne (by omega), upd_ne (by omega), upd_ne (by omega), upd_ne (by omega)]; exact hR.1 k hk8
  · by_cases c : j = 40 * r + a
    · subst c; rw [zup_eq, upd_eq]
    · rw [zup_ne c, upd_ne (by omega), upd_ne (by omega)]; exact hR.2 j hj
theorem ok_mset {x i v : Int32} (hd : 2 < d) (hk : zML lk) (hR : zMR mem rl rn ri) (ho : zRowOk rl rn)
    (qB : zNoRow x → Q (some (.int (-(nI 1000001)))) mem) (q1 : ∀ r, r < 8 → x = nI r → rl r = 99 → Q (some (.int (-(nI 1000010) - nI 1))) (upd mem 1005 (nI 1)))
    (q2 : ∀ r, r < 8 → x = nI r → rl r ≠ 99 → zNoCov (rn r) i (nI 1) → Q (some (.int (-(nI 1000010) - nI 2))) (upd mem 1005 (nI 2)))
    (qG : ∀ r a, r < 8 → x = nI r → rl r ≠ 99 → i = nI a → a + 1 ≤ rn r → ∀ mem', zMR mem' rl rn (va_up ri (40 * r + a) (zcut (rl r) v)) → mem' 1005 = nI 0 → (∀ x, ¬ (3420 ≤ x ∧ x < 3760) → x ≠ 1005 → mem' x = mem x) → Q (some (.int (zcut (rl r) v))) mem') : zOk X d 143 [.ref 1000, .int x, .int i, .int v] mem lk L lk L Q := by
  refine zOk_do 80 (tbl := tX8_set) zck_143 rfl (by omega) (h := ?_)
  refine ok_misRow (by omega) (fun r hr er => zT_ne ?_) (fun c => zF_ne ⟨rfl, rfl, qB c⟩)
  subst er
  have ea : (nI r).toNatClampNeg = r := nC (by omega)
  refine ⟨rfl, ok_against (by omega) hk hR ho hr (fun z => ⟨fun c => absurd c (by decide), fun _ => ⟨rfl, ok_mfinds (by omega) ⟨rfl, rfl, q1 r hr rfl z⟩⟩⟩) (fun z z2 => ⟨fun c => absurd c (by decide), fun _ => ⟨rfl, ok_mfinds (by omega) ⟨rfl, rfl, q2 r hr rfl z z2⟩⟩⟩) (fun z a b e1 e2 hab => ⟨fun _ => ?_, fun c => absurd (show nI 0 ≤ 0 by decide) c⟩)⟩
  obtain ⟨h2, h40⟩ := ho r hr z
  have eb1 : b = 1 := by
    have hb2 : (nI 1).toInt = (nI b).toInt := by rw [← e2]
    rw [nT (by omega), nT (by omega)] at hb2; omega
  subst eb1
  subst e1
  have hin : vp_in (nI 40 * nI r + nI a) (ln X 3440) := by rw [nmul, nI_add]; exact in320 (by omega)
  have el : upd mem (1000 + 5) (nI 0) (3430 + (nI r).toNatClampNeg) = nI (rl r) := by rw [ea, upd_ne (by omega)]; exact ((hR.1 r hr).2 z).2
  refine ⟨rfl, rfl, _, hk.d, rfl, _, hk.c, Or.inl rfl, in8 3430 rfl hr, fun c => ⟨rfl, _, hk.c, Or.inl rfl, in8 3430 rfl hr, fun c2 => ⟨rfl, hin, rfl, _, hk.d, Or.inl rfl, hin, rfl, rfl, ?_⟩, fun c2 => ⟨rfl, hin, rfl, _, hk.d, Or.inl rfl, hin, rfl, rfl, ?_⟩⟩, fun c => ⟨rfl, hin, rfl, _, hk.d, Or.inl rfl, hin, rfl, rfl, ?_⟩⟩
  · have c : ¬ upd mem (1000 + 5) (nI 0) (3430 + (nI r).toNatClampNeg) = 0 := c
    have c2 : ¬ upd mem (1000 + 5) (nI 0) (3430 + (nI r).toNatClampNeg) = nI 1 := c2
    rw [el, n0 (by omega)] at c
    rw [el, nEq (by omega) (by omega)] at c2
    have hz : zcut (rl r) v = v := by unfold zcut; rw [if_neg c, if_neg c2]
    have qG := qG r a hr rfl z rfl hab
    rw [hz] at qG
    exact mset_fin hR hr (by omega) qG
  · have c : ¬ upd mem (1000 + 5) (nI 0) (3430 + (nI r).toNatClampNeg) = 0 := c
    have c2 : upd mem (1000 + 5) (nI 0) (3430 + (nI r).toNatClampNeg) = nI 1 := c2
    rw [el, n0 (by omega)] at c
    rw [el, nEq (by omega) (by omega)] at c2
    have hz : zcut (rl r) v = v.toInt16.toInt32 := by unfold zcut; rw [if_neg c, if_pos c2]
    have qG := qG r a hr rfl z rfl hab
    rw [hz] at qG
    exact mset_fin hR hr (by omega) qG
  · have c : upd mem (1000 + 5) (nI 0) (3430 + (nI r).toNatClampNeg) = 0 := c
    rw [el, n0 (by omega)] at c
    have hz : zcut (rl r) v = v.toInt8.toInt32 := by unfold zcut; rw [if_pos c]
    have qG := qG r a hr rfl z rfl hab
    rw [hz] at qG
    exact mset_fin hR hr (by omega) qG
theorem in40 {X s : Nat} (h : s < 40) : vp_in (nI s) (ln X 3760) := vp_in_nI h (by show 40 < 2 ^ 31; decide)
theorem mcopy2 {r s a b n : Nat} (hk : zML lk) (hr : r < 8) (hs : s < 8) (ha : a + n ≤ 40) (hb : b + n ≤ 40) (m0 : zMem) (h1 : ∀ k, k < 8 → (rl k = 99 → m0 (3420 + k) = -(nI 1)) ∧ (rl k ≠ 99 → m0 (3420 + k) = nI (rn k) ∧ m0 (3430 + k) = nI (rl k))) (h2 : ∀ i, i < 320 → m0 (3440 + i) = ri i) (h3 : ∀ i, i < n → m0 (3760 + i) = ri (40 * r + a + i))
    (q : ∀ mem', zMR mem' rl rn (zricp ri (40 * r + a) (40 * s + b) n) → (∀ x, ¬ (3440 ≤ x ∧ x < 3760) → mem' x = m0 x) → Q (some (.int (nI n))) mem') : ∀ m i m1, i + m = n → (∀ j, j < 320 → m1 (3440 + j) = if 40 * s + b ≤ j ∧ j < 40 * s + b + i then ri (40 * r + a + (j - (40 * s + b))) else ri j) → (∀ x, ¬ (3440 ≤ x ∧ x < 3760) → m1 x = m0 x) → zE X d 144 136 [.ref 1000, .int (nI r), .int (nI a), .int (nI s), .int (nI b), .int (nI n), .int (nI i)] [] m1 lk L lk L Q := by
  intro m
  induction m with
  | zero =>
    intro i m1 hi g1 g2
    have c1 : nI n ≤ nI i := by rw [nLe (by omega) (by omega)]; omega
    refine zE_do 40 136 (tbl := tX8_copy) zck_144 rfl (h := ?_)
    refine ⟨fun _ => ⟨rfl, rfl, q m1 ⟨fun k hk8 => ?_, fun j hj => ?_⟩ g2⟩, fun c => absurd c1 c⟩
    · rw [g2 _ (by omega), g2 _ (by omega)]; exact h1 k hk8
    · rw [g1 j hj, show i = n by omega]; rfl
  | succ m ih =>
    intro i m1 hi g1 g2
    have c1 : ¬ nI n ≤ nI i := by rw [nLe (by omega) (by omega)]; omega
    have e1 : nI 40 * nI s + nI b + nI i = nI (40 * s + b + i) := by rw [nmul, nI_add, nI_add]
    have ei : (nI i).toNatClampNeg = i := nC (by omega)
    have k := ih (i + 1) (upd m1 (3440 + (40 * s + b + i)) (m1 (3760 + i))) (by omega) (fun j hj => ?_) (fun x hx => ?_)
    · rw [← nI_1] at k
      refine zE_do 60 136 (tbl := tX8_copy) zck_144 rfl (h := ?_)
      refine ⟨fun c => absurd c c1, fun _ => ⟨rfl, _, hk.d, rfl, _, hk.e, Or.inl rfl, in40 (by omega), rfl, ?_, ?_⟩⟩
      · rw [e1]; exact in320 (by omega)
      · have a1 : (nI 40 * nI s + nI b + nI i).toNatClampNeg = 40 * s + b + i := by rw [e1]; exact nC (by omega)
        show zE X d 144 136 [.ref 1000, .int (nI r), .int (nI a), .int (nI s), .int (nI b), .int (nI n), .int (nI i + nI 1)] [] (upd m1 (3440 + (nI 40 * nI s + nI b + nI i).toNatClampNeg) (m1 (3760 + (nI i).toNatClampNeg))) lk L lk L Q
        rw [a1, ei]
        exact k
    · by_cases c : j = 40 * s + b + i
      · subst c; rw [upd_eq, if_pos (by omega), g2 _ (by omega), h3 _ (by omega), show 40 * s + b + i - (40 * s + b) = i by omega]
      · rw [upd_ne (by omega), g1 j hj]
        by_cases c2 : 40 * s + b ≤ j ∧ j < 40 * s + b + i
        · rw [if_pos c2, if_pos (by omega)]
        · rw [if_neg c2, if_neg (by omega)]
    · rw [upd_ne (by omega)]; exact g2 x hx
theorem mcopy1 {r s a b n : Nat} (hk : zML lk) (hr : r < 8) (hs : s < 8) (ha : a + n ≤ 40) (hb : b + n ≤ 40) (hR : zMR mem rl rn ri)
    (q : ∀ mem', zMR mem' rl rn (zricp ri (40 * r + a) (40 * s + b) n) → (∀ x, ¬ (3440 ≤ x ∧ x < 3800) → mem' x = mem x) → Q (some (.int (nI n))) mem') : ∀ m i m1, i + m = n → (∀ j, j < i → m1 (3760 + j) = ri (40 * r + a + j)) → (∀ x, ¬ (3760 ≤ x ∧ x < 3800) → m1 x = mem x) → zE X d 144 99 [.ref 1000, .int (nI r), .int (nI a), .int (nI s), .int (nI b), .int (nI n), .int (nI i)] [] m1 lk L lk L Q := by
  intro m
  induction m with
  | zero =>
    intro i m1 hi g1 g2
    have c1 : nI n ≤ nI i := by rw [nLe (by omega) (by omega)]; omega
    have hR1 := hR.fr (mem' := m1) (fun x h1 h2 => g2 x (by omega))
    refine zE_do 40 99 (tbl := tX8_copy) zck_144 rfl (h := ?_)
    refine ⟨fun _ => ?_, fun c => absurd c1 c⟩
    exact mcopy2 (rl := rl) (rn := rn) (ri := ri) hk hr hs ha hb m1 hR1.1 hR1.2 (fun j hj => g1 j (by omega)) (fun m2 f1 f2 => q m2 f1 (fun x hx => by rw [f2 x (by omega), g2 x (by omega)])) n 0 m1 (by omega) (fun j hj => by rw [if_neg (by omega)]; exact hR1.2 j hj) (fun _ _ => rfl)
  | succ m ih =>
    intro i m1 hi g1 g2
    have c1 : ¬ nI n ≤ nI i := by rw [nLe (by omega) (by omega)]; omega
    have e1 : nI 40 * nI r + nI a + nI i = nI (40 * r + a + i) := by rw [nmul, nI_add, nI_add]
    have ei : (nI i).toNatClampNeg = i := nC (by omega)
    have k := ih (i + 1) (upd m1 (3760 + i) (m1 (3440 + (40 * r + a + i)))) (by omega) (fun j hj => ?_) (fun x hx => ?_)
    · rw [← nI_1] at k
      refine zE_do 60 99 (tbl := tX8_copy) zck_144 rfl (h := ?_)
      refine ⟨fun c => absurd c c1, fun _ => ⟨rfl, _, hk.e, rfl, _, hk.d, Or.inl rfl, ?_, rfl, in40 (by omega), ?_⟩⟩
      · rw [e1]; exact in320 (by omega)
      · have a1 : (nI 40 * nI r + nI a + nI i).toNatClampNeg = 40 * r + a + i := by rw [e1]; exact nC (by omega)
        show zE X d 144 99 [.ref 1000, .int (nI r), .int (nI a), .int (nI s), .int (nI b), .int (nI n), .int (nI i + nI 1)] [] (upd m1 (3760 + (nI i).toNatClampNeg) (m1 (3440 + (nI 40 * nI r + nI a + nI i).toNatClampNeg))) lk L lk L Q
        rw [a1, ei]
        exact k
    · by_cases c : j = i
      · subst c; rw [upd_eq, g2 _ (by omega)]; exact hR.2 _ (by omega)
      · rw [upd_ne (by omega)]; exact g1 j (by omega)
    · rw [upd_ne (by omega)]; exact g2 x hx
theorem ok_mcopy {x i y j n : Int32} (hd : 2 < d) (hk : zML lk) (hR : zMR mem rl rn ri) (ho : zRowOk rl rn)
    (qB : (zNoRow x ∨ zNoRow y) → Q (some (.int (-(nI 1000001)))) mem)
    (q1 : ∀ r s, r < 8 → s < 8 → x = nI r → y = nI s → (rl r = 99 ∨ rl s = 99) → Q (some (.int (-(nI 1000010) - nI 1))) (upd mem 1005 (nI 1)))
    (q5 : ∀ r s, r < 8 → s < 8 → x = nI r → y = nI s → rl r ≠ 99 → rl s ≠ 99 → rl r ≠ rl s → Q (some (.int (-(nI 1000010) - nI 5))) (upd mem 1005 (nI 5)))
    (q2 : ∀ r s, r < 8 → s < 8 → x = nI r → y = nI s → rl r ≠ 99 → rl s ≠ 99 → rl r = rl s → (zNoCov (rn r) i n ∨ zNoCov (rn s) j n) → Q (some (.int (-(nI 1000010) - nI 2))) (upd mem 1005 (nI 2)))
    (qG : ∀ r s a b c, r < 8 → s < 8 → x = nI r → y = nI s → rl r ≠ 99 → rl s ≠ 99 → rl r = rl s → i = nI a → j = nI b → n = nI c → a + c ≤ rn r → b + c ≤ rn s → ∀ mem', zMR mem' rl rn (zricp ri (40 * r + a) (40 * s + b) c) → mem' 1005 = nI 0 → (∀ x, ¬ (3420 ≤ x ∧ x < 3800) → x ≠ 1005 → mem' x = mem x) → Q (some (.int (nI c))) mem') : zOk X d 144 [.ref 1000, .int x, .int i, .int y, .int j, .int n] mem lk L lk L Q := by
  refine zOk_do 100 (tbl := tX8_copy) zck_144 rfl (by omega) (h := ?_)
  refine ok_misRow (by omega) (fun r hr er => zT_eq ?_) (fun c => zF_eq ⟨rfl, rfl, qB (Or.inl c)⟩)
  subst er
  refine ok_misRow (by omega) (fun s hs es => zT_ne ?_) (fun c => zF_ne ⟨rfl, rfl, qB (Or.inr c)⟩)
  subst es
  have ea : (nI r).toNatClampNeg = r := nC (by omega)
  have eb : (nI s).toNatClampNeg = s := nC (by omega)
  have nm : (-(nI 1)).toInt = -1 := by decide
  have hms : ∀ k, k < 8 → (mem (3420 + (nI k).toNatClampNeg) < 0 ↔ rl k = 99) := fun k hk8 => by
    rw [nC (by omega), i_lt, i_0]
    by_cases z : rl k = 99
    · rw [(hR.1 k hk8).1 z, nm]; omega
    · have := (ho k hk8 z).2
      rw [((hR.1 k hk8).2 z).1, nT (by omega)]; omega
  have hge : ∀ k, k < 8 → (0 ≤ mem (3420 + (nI k).toNatClampNeg) ↔ ¬ rl k = 99) := fun k hk8 => by
    rw [← hms k hk8, i_le, i_lt, i_0]; omega
  refine ⟨rfl, _, hk.b, Or.inl rfl, in8 3420 rfl hr, fun c => ⟨rfl, ok_mfinds (by omega) ⟨rfl, rfl, q1 r s hr hs rfl rfl (Or.inl ((hms r hr).mp c))⟩⟩, fun c => ⟨rfl, _, hk.b, Or.inl rfl, in8 3420 rfl hs, fun c2 => ?_, fun c2 => ⟨rfl, ok_mfinds (by omega) ⟨rfl, rfl, q1 r s hr hs rfl rfl (Or.inr (Decidable.byContradiction fun z => c2 ((hge s hs).mpr z)))⟩⟩⟩⟩
  have z : rl r ≠ 99 := fun z => c ((hms r hr).mpr z)
  have z2 : rl s ≠ 99 := (hge s hs).mp c2
  have er : mem (3430 + (nI r).toNatClampNeg) = nI (rl r) := by rw [ea]; exact ((hR.1 r hr).2 z).2
  have es : mem (3430 + (nI s).toNatClampNeg) = nI (rl s) := by rw [eb]; exact ((hR.1 s hs).2 z2).2
  obtain ⟨o1, o2⟩ := ho r hr z
  obtain ⟨o3, o4⟩ := ho s hs z2
  refine ⟨rfl, _, hk.c, Or.inl rfl, in8 3430 rfl hr, rfl, _, hk.c, Or.inl rfl, in8 3430 rfl hs, fun c3 => ⟨rfl, ?_⟩, fun c3 => ⟨rfl, ok_mfinds (by omega) ⟨rfl, rfl, q5 r s hr hs rfl rfl z z2 ?_⟩⟩⟩
  · have c3 : mem (3430 + (nI r).toNatClampNeg) = mem (3430 + (nI s).toNatClampNeg) := c3
    rw [er, es, nEq (by omega) (by omega)] at c3
    refine ok_against (by omega) hk hR ho hr (fun y => absurd y z) (fun _ y => ⟨fun _ => ⟨rfl, ok_mfinds (by omega) ⟨rfl, rfl, q2 r s hr hs rfl rfl z z2 c3 (Or.inl y)⟩⟩, fun y => absurd (show 0 < nI 2 by decide) y⟩) (fun _ a b e1 e2 hab => ⟨fun y => absurd y (by decide), fun _ => ⟨rfl, ?_⟩⟩)
    refine ok_against (by omega) hk hR ho hs (fun y => absurd y z2) (fun _ y => ⟨fun y => absurd y (by decide), fun _ => ⟨rfl, ok_mfinds (by omega) ⟨rfl, rfl, q2 r s hr hs rfl rfl z z2 c3 (Or.inr y)⟩⟩⟩) (fun _ a' b' e3 e4 hab' => ⟨fun _ => ⟨rfl, ?_⟩, fun y => absurd (show nI 0 ≤ 0 by decide) y⟩)
    have hbb : b = b' := by
      rw [e2] at e4
      have q := Nat.lt_of_le_of_lt (Nat.le_trans (Nat.le_add_left b a) hab) (show rn r < 1000 by omega)
      have q' := Nat.lt_of_le_of_lt (Nat.le_trans (Nat.le_add_left b' a') hab') (show rn s < 1000 by omega)
      exact (nEq (by omega) (by omega)).mp e4
    subst hbb
    subst e1 e2 e3
    exact mcopy1 (mem := upd mem (1000 + 5) (nI 0)) hk hr hs (by omega) (by omega) (hR.st (by omega)) (fun m1 f1 f2 => qG r s a a' b hr hs rfl rfl z z2 c3 rfl rfl rfl hab hab' m1 f1 (by rw [f2 _ (by omega)]; exact upd_eq) (fun x hx hx2 => by rw [f2 x (by omega), upd_ne (by omega)])) b 0 (upd mem (1000 + 5) (nI 0)) (by omega) (fun j hj => by omega) (fun _ _ => rfl)
  · have c3 : ¬ mem (3430 + (nI r).toNatClampNeg) = mem (3430 + (nI s).toNatClampNeg) := c3
    rw [er, es, nEq (by omega) (by omega)] at c3
    exact c3
end MR
