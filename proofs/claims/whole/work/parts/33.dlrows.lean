/-! DishLift: row, set, copy, drop -/
def zBadRow (x y z : Int32) : Prop := (x.toInt < 0 ∨ 8 ≤ x.toInt) ∨ (y.toInt < 0 ∨ 2 < y.toInt) ∨ 40 < z.toInt
def zNoRow (x : Int32) : Prop := x.toInt < 0 ∨ 8 ≤ x.toInt
def zNoCov (k : Nat) (i n : Int32) : Prop := i.toInt < 0 ∨ n.toInt < 0 ∨ (k : Int) < i.toInt + n.toInt
def zricp (ri : Nat → Int32) (a b n : Nat) (x : Nat) : Int32 := if b ≤ x ∧ x < b + n then ri (a + (x - b)) else ri x
theorem zCR.st {mem : zMem} {rl rn : Nat → Nat} {ri : Nat → Int32} {x : Nat} {v : Int32} (h : zCR mem rl rn ri) (hx : x < 130 ∨ 520 ≤ x) : zCR (upd mem x v) rl rn ri :=
  ⟨fun k hk => by rw [upd_ne (by omega), upd_ne (by omega)]; exact h.1 k hk, fun i hi => by rw [upd_ne (by omega)]; exact h.2 i hi⟩
theorem zCR.fr {mem mem' : zMem} {rl rn : Nat → Nat} {ri : Nat → Int32} (h : zCR mem rl rn ri) (hx : ∀ x, 130 ≤ x → x < 520 → mem' x = mem x) : zCR mem' rl rn ri :=
  ⟨fun k hk => by rw [hx _ (by omega) (by omega), hx _ (by omega) (by omega)]; exact h.1 k hk, fun i hi => by rw [hx _ (by omega) (by omega)]; exact h.2 i hi⟩
section DR
variable {X d : Nat} {mem : zMem} {lk : zLk} {L : List Nat} {Q : Option Value → zMem → Prop} {rl rn : Nat → Nat} {ri : Nat → Int32}
theorem ok_row {x y z : Int32} (hd : 2 < d) (hk : zKs lk) (hR : zCR mem rl rn ri)
    (qB : zBadRow x y z → Q (some (.int (-(nI 1000001)))) mem) (qS : ¬ zBadRow x y z → z.toInt < 0 → Q (some (.int (-(nI 1000010) - nI 4))) (upd mem 109 (nI 4)))
    (qG : ∀ r l n, x = nI r → y = nI l → z = nI n → r < 8 → l ≤ 2 → n ≤ 40 → ∀ mem', zCR mem' (va_up rl r l) (va_up rn r n) (zri0 ri r) → mem' 109 = nI 0 → (∀ x, ¬ (130 ≤ x ∧ x < 520) → x ≠ 109 → mem' x = mem x) → Q (some (.int (nI n))) mem') : zOk X d 91 [.ref 100, .int x, .int y, .int z] mem lk L lk L Q := by
  have n40 : (nI 40).toInt = 40 := nT (by omega)
  refine zOk_do 60 (tbl := tX7_row) zck_91 rfl (by omega) (h := ?_)
  refine ok_isRow (by omega) (fun r hr er => zT_eq ?_) (fun c => zF_eq ⟨rfl, rfl, qB (Or.inl c)⟩)
  refine ok_isLane (by omega) (fun l hl el => zT_eq ?_) (fun c => zF_eq ⟨rfl, rfl, qB (Or.inr (Or.inl c))⟩)
  have hx : x.toInt = r := by rw [er]; exact nT (by omega)
  have hy : y.toInt = l := by rw [el]; exact nT (by omega)
  refine ⟨fun c => ⟨fun c2 => ⟨rfl, _, hk.at 100 120, rfl, ?_⟩, fun c2 => ⟨rfl, ok_found (by omega) ⟨rfl, rfl, qS ?_ ?_⟩⟩⟩, fun c => ⟨rfl, rfl, qB (Or.inr (Or.inr ?_))⟩⟩
  · have c : z ≤ nI 40 := c
    have c2 : 0 ≤ z := c2
    rw [i_le, n40] at c
    rw [i_le, i_0] at c2
    rcases zix z (n := 41) (by omega) with ⟨n, hn, e⟩ | q
    · subst er el e
      exact ok_begin (by omega) hk hR hr hl (fun m1 h1 f1 => ⟨rfl, ok_foundNothing (by omega) ⟨rfl, rfl, qG r l n rfl rfl rfl hr hl (by omega) _ (h1.st (by omega)) upd_eq (fun x hx hx2 => by rw [upd_ne hx2]; exact f1 x hx)⟩⟩)
    · omega
  · have c : z ≤ nI 40 := c
    rw [i_le, n40] at c
    unfold zBadRow; omega
  · have c2 : ¬ 0 ≤ z := c2
    rw [i_le, i_0] at c2
    omega
  · have c : ¬ z ≤ nI 40 := c
    rw [i_le, n40] at c
    omega
theorem ok_set {x i v : Int32} (hd : 2 < d) (hk : zKs lk) (hR : zCR mem rl rn ri) (ho : zRowOk rl rn)
    (qB : zNoRow x → Q (some (.int (-(nI 1000001)))) mem) (q1 : ∀ r, r < 8 → x = nI r → rl r = 99 → Q (some (.int (-(nI 1000010) - nI 1))) (upd mem 109 (nI 1)))
    (q2 : ∀ r, r < 8 → x = nI r → rl r ≠ 99 → zNoCov (rn r) i (nI 1) → Q (some (.int (-(nI 1000010) - nI 2))) (upd mem 109 (nI 2)))
    (qG : ∀ r a, r < 8 → x = nI r → rl r ≠ 99 → i = nI a → a + 1 ≤ rn r → ∀ mem', zCR mem' rl rn (va_up ri (40 * r + a) (zcut (rl r) v)) → mem' 109 = nI 0 → (∀ x, ¬ (130 ≤ x ∧ x < 520) → x ≠ 109 → mem' x = mem x) → Q (some (.int (zcut (rl r) v))) mem') : zOk X d 92 [.ref 100, .int x, .int i, .int v] mem lk L lk L Q := by
  refine zOk_do 60 (tbl := tX7_set) zck_92 rfl (by omega) (h := ?_)
  refine ok_isRow (by omega) (fun r hr er => zT_ne ?_) (fun c => zF_ne ⟨rfl, rfl, qB c⟩)
  subst er
  refine ⟨rfl, _, hk.at 100 120, rfl, ok_isMissing (by omega) hk hR ho hr (fun z => zT_eq ⟨rfl, ok_found (by omega) ⟨rfl, rfl, q1 r hr rfl z⟩⟩) (fun z => zF_eq ⟨rfl, _, hk.at 100 120, rfl, ?_⟩)⟩
  have h40 := (ho r hr z).2
  refine ok_covers (by omega) hk hR ho hr z (fun a b ea eb hab => zT_ne ?_) (fun c => zF_ne ⟨rfl, ok_found (by omega) ⟨rfl, rfl, q2 r hr rfl z c⟩⟩)
  have eb1 : b = 1 := by
    have hb2 : (nI 1).toInt = (nI b).toInt := by rw [← eb]
    rw [nT (by omega), nT (by omega)] at hb2; omega
  subst eb1
  subst ea
  exact ⟨rfl, _, hk.at 100 120, rfl, ok_put (by omega) hk hR ho hr z (by omega) (fun m1 h1 f1 => ⟨rfl, ok_foundNothing (by omega) ⟨rfl, rfl, qG r a hr rfl z rfl hab _ (h1.st (by omega)) upd_eq (fun x hx hx2 => by rw [upd_ne hx2]; exact f1 x (by omega))⟩⟩)⟩
theorem ok_drop {x : Int32} (hd : 2 < d) (hk : zKs lk) (hR : zCR mem rl rn ri) (ho : zRowOk rl rn)
    (qB : zNoRow x → Q (some (.int (-(nI 1000001)))) mem) (q1 : ∀ r, r < 8 → x = nI r → rl r = 99 → Q (some (.int (-(nI 1000010) - nI 1))) (upd mem 109 (nI 1)))
    (qG : ∀ r, r < 8 → x = nI r → rl r ≠ 99 → ∀ mem', zCR mem' (va_up rl r 99) rn ri → mem' 109 = nI 0 → (∀ x, ¬ (130 ≤ x ∧ x < 520) → x ≠ 109 → mem' x = mem x) → Q (some (.int (nI (rn r)))) mem') : zOk X d 94 [.ref 100, .int x] mem lk L lk L Q := by
  refine zOk_do 60 (tbl := tX7_drop) zck_94 rfl (by omega) (h := ?_)
  refine ok_isRow (by omega) (fun r hr er => zT_ne ?_) (fun c => zF_ne ⟨rfl, rfl, qB c⟩)
  subst er
  refine ⟨rfl, _, hk.at 100 120, rfl, ok_isMissing (by omega) hk hR ho hr (fun z => zT_eq ⟨rfl, ok_found (by omega) ⟨rfl, rfl, q1 r hr rfl z⟩⟩) (fun z => zF_eq ⟨rfl, _, hk.at 100 120, rfl, ?_⟩)⟩
  exact ok_lose76 (by omega) hk hR hr z (fun m1 h1 f1 => ⟨rfl, ok_foundNothing (by omega) ⟨rfl, rfl, qG r hr rfl z _ (h1.st (by omega)) upd_eq (fun x hx hx2 => by rw [upd_ne hx2]; exact f1 x (by omega))⟩⟩)
theorem ok_copy {x i y j n : Int32} (hd : 2 < d) (hk : zKs lk) (hR : zCR mem rl rn ri) (ho : zRowOk rl rn)
    (qB : (zNoRow x ∨ zNoRow y) → Q (some (.int (-(nI 1000001)))) mem)
    (q1 : ∀ r s, r < 8 → s < 8 → x = nI r → y = nI s → (rl r = 99 ∨ rl s = 99) → Q (some (.int (-(nI 1000010) - nI 1))) (upd mem 109 (nI 1)))
    (q5 : ∀ r s, r < 8 → s < 8 → x = nI r → y = nI s → rl r ≠ 99 → rl s ≠ 99 → rl r ≠ rl s → Q (some (.int (-(nI 1000010) - nI 5))) (upd mem 109 (nI 5)))
    (q2 : ∀ r s, r < 8 → s < 8 → x = nI r → y = nI s → rl r ≠ 99 → rl s ≠ 99 → rl r = rl s → (zNoCov (rn r) i n ∨ zNoCov (rn s) j n) → Q (some (.int (-(nI 1000010) - nI 2))) (upd mem 109 (nI 2)))
    (qG : ∀ r s a b c, r < 8 → s < 8 → x = nI r → y = nI s → rl r ≠ 99 → rl s ≠ 99 → rl r = rl s → i = nI a → j = nI b → n = nI c → a + c ≤ rn r → b + c ≤ rn s → ∀ mem', zCR mem' rl rn (zricp ri (40 * r + a) (40 * s + b) c) → mem' 109 = nI 0 → (∀ x, ¬ (130 ≤ x ∧ x < 520) → x ≠ 109 → mem' x = mem x) → Q (some (.int (nI c))) mem') : zOk X d 93 [.ref 100, .int x, .int i, .int y, .int j, .int n] mem lk L lk L Q := by
  refine zOk_do 100 (tbl := tX7_copy) zck_93 rfl (by omega) (h := ?_)
  refine ok_isRow (by omega) (fun r hr er => zT_eq ?_) (fun c => zF_eq ⟨rfl, rfl, qB (Or.inl c)⟩)
  subst er
  refine ok_isRow (by omega) (fun s hs es => zT_ne ?_) (fun c => zF_ne ⟨rfl, rfl, qB (Or.inr c)⟩)
  subst es
  have ea : (nI r).toNatClampNeg = r := nC (by omega)
  have eb : (nI s).toNatClampNeg = s := nC (by omega)
  refine ⟨rfl, _, hk.at 100 120, rfl, ok_isMissing (by omega) hk hR ho hr (fun z => zT_ne ⟨rfl, ok_found (by omega) ⟨rfl, rfl, q1 r s hr hs rfl rfl (Or.inl z)⟩⟩) (fun z => zF_ne ⟨rfl, _, hk.at 100 120, rfl, ?_⟩)⟩
  refine ok_isMissing (by omega) hk hR ho hs (fun z2 => zT_eq ⟨rfl, ok_found (by omega) ⟨rfl, rfl, q1 r s hr hs rfl rfl (Or.inr z2)⟩⟩) (fun z2 => zF_eq ?_)
  have er : mem (130 + (nI r).toNatClampNeg) = nI (rl r) := by rw [ea]; exact ((hR.1 r hr).2 z).1
  have es : mem (130 + (nI s).toNatClampNeg) = nI (rl s) := by rw [eb]; exact ((hR.1 s hs).2 z2).1
  obtain ⟨o1, o2⟩ := ho r hr z
  obtain ⟨o3, o4⟩ := ho s hs z2
  refine ⟨rfl, _, hk.at 100 120, rfl, _, hk.at 120 130, Or.inl rfl, in8 130 rfl hr, rfl, _, hk.at 100 120, rfl, _, hk.at 120 130, Or.inl rfl, in8 130 rfl hs, fun c => ⟨rfl, _, hk.at 100 120, rfl, ?_⟩, fun c => ⟨rfl, ok_found (by omega) ⟨rfl, rfl, q5 r s hr hs rfl rfl z z2 ?_⟩⟩⟩
  · have c : mem (130 + (nI r).toNatClampNeg) = mem (130 + (nI s).toNatClampNeg) := c
    rw [er, es, nEq (by omega) (by omega)] at c
    refine ok_covers (by omega) hk hR ho hr z (fun a b ea2 eb2 hab => zT_eq ⟨rfl, _, hk.at 100 120, rfl, ?_⟩) (fun c3 => zF_eq ⟨rfl, ok_found (by omega) ⟨rfl, rfl, q2 r s hr hs rfl rfl z z2 c (Or.inl c3)⟩⟩)
    refine ok_covers (by omega) hk hR ho hs z2 (fun a' b' ea3 eb3 hab' => zT_ne ?_) (fun c3 => zF_ne ⟨rfl, ok_found (by omega) ⟨rfl, rfl, q2 r s hr hs rfl rfl z z2 c (Or.inr c3)⟩⟩)
    have hbb : b = b' := by
      rw [eb2] at eb3
      have q := Nat.lt_of_le_of_lt (Nat.le_trans (Nat.le_add_left b a) hab) (show rn r < 1000 by omega)
      have q' := Nat.lt_of_le_of_lt (Nat.le_trans (Nat.le_add_left b' a') hab') (show rn s < 1000 by omega)
      exact (nEq (by omega) (by omega)).mp eb3
    subst hbb
    subst ea2 eb2 ea3
    have hno : ∀ {A : Prop} {k : Nat}, k < 8 → lk (150 + (nI k).toNatClampNeg) = none → A := fun {A k} hk8 z => by rw [nC (by omega), hk.2 k hk8] at z; cases z
    have hso : ∀ {k : Nat} t, k < 8 → lk (150 + (nI k).toNatClampNeg) = some t → t = 200 + 40 * k := fun {k} t hk8 ht => by rw [nC (by omega), hk.2 k hk8] at ht; cases ht; rfl
    refine ⟨rfl, _, hk.at 100 120, rfl, _, hk.at 122 150, Or.inr rfl, in8 150 rfl hr, fun y => hno hr y, fun t ht => ?_⟩
    cases hso t hr ht
    refine ⟨rfl, _, hk.at 100 120, rfl, _, hk.at 122 150, Or.inr rfl, in8 150 rfl hs, fun y => hno hs y, fun t ht => ?_⟩
    cases hso t hs ht
    have na : (nI a).toNatClampNeg = a := nC (by omega)
    have nb : (nI b).toNatClampNeg = b := nC (by omega)
    have nc : (nI a').toNatClampNeg = a' := nC (by omega)
    refine ⟨kd_item hr, kd_item hs, nge0 (by omega), nge0 (by omega), nge0 (by omega), by rw [na, nb, ln_item hr]; omega, by rw [nc, nb, ln_item hs]; omega, rfl, ok_foundNothing (by omega) ⟨rfl, rfl, qG r s a a' b hr hs rfl rfl z z2 c rfl rfl rfl hab hab' _ ?_ upd_eq (fun x hx hx2 => ?_)⟩⟩
    · refine zCR.st ⟨fun k hk8 => ?_, fun p hp => ?_⟩ (by omega)
      · dsimp only
        rw [nc, nb, if_neg (by omega), if_neg (by omega)]; exact hR.1 k hk8
      · dsimp only
        rw [na, nb, nc]
        unfold zricp
        by_cases y : 40 * s + a' ≤ p ∧ p < 40 * s + a' + b
        · rw [if_pos (by omega), if_pos y, show 200 + 40 * r + a + (200 + p - (200 + 40 * s + a')) = 200 + (40 * r + a + (p - (40 * s + a'))) by omega]
          exact hR.2 _ (by omega)
        · rw [if_neg (by omega), if_neg y]; exact hR.2 p hp
    · rw [upd_ne hx2, nc, nb, if_neg (by omega)]
  · have c : ¬ mem (130 + (nI r).toNatClampNeg) = mem (130 + (nI s).toNatClampNeg) := c
    rw [er, es, nEq (by omega) (by omega)] at c
    exact c
end DR
