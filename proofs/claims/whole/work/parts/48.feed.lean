/-! feed, of the class and of the reference -/
section FD
variable {X d : Nat} {mem : zMem} {lk : zLk} {L : List Nat} {Q : Option Value → zMem → Prop} {t : Nat}
theorem ok_feed {x : Int32} (hd : 2 < d) (hk : zKs lk) (ht : mem 531 = nI t) (h110 : t ≤ 110)
    (qB : (x.toInt < 0 ∨ 255 < x.toInt) → Q (some (.int (-(nI 1000001)))) mem) (qF : ∀ b, b ≤ 255 → x = nI b → t = 110 → Q (some (.int (-(nI 1000003)))) mem)
    (q : ∀ b, b ≤ 255 → x = nI b → t < 110 → Q (some (.int (nI (t + 1)))) (upd (upd mem (540 + t) (nI b)) 531 (nI (t + 1)))) : zOk X d 95 [.ref 100, .int x] mem lk L lk L Q := by
  have n255 : (nI 255).toInt = 255 := nT (by omega)
  have e1 : mem (530 + 1) = nI t := ht
  refine zOk_do 60 (tbl := tX7_feed) zck_95 rfl (by omega) (h := ?_)
  refine ⟨fun c => ⟨rfl, rfl, qB (Or.inl ?_)⟩, fun c => ⟨fun c2 => ⟨rfl, _, hk.at 101 530, rfl, ?_⟩, fun c2 => ⟨rfl, rfl, qB (Or.inr ?_)⟩⟩⟩
  · have c : x < 0 := c
    rw [i_lt, i_0] at c; exact c
  · have c : ¬ x < 0 := c
    have c2 : x ≤ nI 255 := c2
    rw [i_lt, i_0] at c
    rw [i_le, n255] at c2
    rcases zix x (n := 256) (by omega) with ⟨b, hb, ex⟩ | z
    · have pF := qF b (by omega) ex
      have p := q b (by omega) ex
      subst ex
      refine zOk_do 40 (tbl := tX6_isFull) zck_79 rfl (by omega) (h := ?_)
      refine ⟨rfl, fun c3 => ⟨rfl, rfl, rfl, zF_eq ⟨rfl, _, hk.at 101 530, rfl, ?_⟩⟩, fun c3 => ⟨rfl, rfl, rfl, zT_eq ⟨rfl, rfl, pF ?_⟩⟩⟩
      · have c3 : mem (530 + 1) < nI 110 := c3
        rw [e1, nLt (by omega) (by omega)] at c3
        have p := p c3
        have c4 : ¬ nI 110 ≤ mem (530 + 1) := by rw [e1, nLe (by omega) (by omega)]; omega
        refine zOk_do 40 (tbl := tX6_add) zck_80 rfl (by omega) (h := ?_)
        refine ⟨rfl, fun c5 => absurd c5 c4, fun _ => ⟨rfl, _, hk.at 530 540, rfl, rfl, by rw [e1]; exact vp_in_nI c3 (by show 110 < 2 ^ 31; decide), rfl, rfl, rfl, rfl, rfl, rfl, rfl, ?_⟩⟩
        show Q (some (.int (upd (upd mem (540 + (mem (530 + 1)).toNatClampNeg) (nI b)) (530 + 1) (upd mem (540 + (mem (530 + 1)).toNatClampNeg) (nI b) (530 + 1) + nI 1) (530 + 1)))) (upd (upd mem (540 + (mem (530 + 1)).toNatClampNeg) (nI b)) (530 + 1) (upd mem (540 + (mem (530 + 1)).toNatClampNeg) (nI b) (530 + 1) + nI 1))
        rw [upd_eq, e1, nC (by omega), upd_ne (by omega), e1, nI_add]
        exact p
      · have c3 : ¬ mem (530 + 1) < nI 110 := c3
        rw [e1, nLt (by omega) (by omega)] at c3
        omega
    · omega
  · have c2 : ¬ x ≤ nI 255 := c2
    rw [i_le, n255] at c2; omega
theorem ok_mfeed {x : Int32} (hd : 2 < d) (hk : zML lk) (ht : mem 1003 = nI t) (h110 : t ≤ 110)
    (qB : (x.toInt < 0 ∨ 255 < x.toInt) → Q (some (.int (-(nI 1000001)))) mem) (qF : ∀ b, b ≤ 255 → x = nI b → t = 110 → Q (some (.int (-(nI 1000003)))) mem)
    (q : ∀ b, b ≤ 255 → x = nI b → t < 110 → Q (some (.int (nI (t + 1)))) (upd (upd mem (3300 + t) (nI b)) 1003 (nI (t + 1)))) : zOk X d 146 [.ref 1000, .int x] mem lk L lk L Q := by
  have e1 : mem (1000 + 3) = nI t := ht
  refine zOk_do 60 (tbl := tX8_feed) zck_146 rfl (by omega) (h := ?_)
  refine ok_min (a := 0) (b := 255) (by omega) (by omega) (by omega) (fun c => zF_ne ⟨rfl, rfl, qB (by omega)⟩) (fun b h1 h2 ex => zT_ne ?_)
  have pF := qF b (by omega) ex
  have p := q b (by omega) ex
  subst ex
  refine ⟨rfl, fun c3 => ?_, fun c3 => ⟨rfl, rfl, pF ?_⟩⟩
  · have c3 : ¬ mem (1000 + 3) = nI 110 := c3
    rw [e1, nEq (by omega) (by omega)] at c3
    have p := p (by omega)
    refine ⟨rfl, _, hk.2.1, rfl, rfl, by rw [e1]; exact vp_in_nI (show t < 110 by omega) (by show 110 < 2 ^ 31; decide), rfl, rfl, rfl, rfl, rfl, ?_⟩
    show Q (some (.int (upd (upd mem (3300 + (mem (1000 + 3)).toNatClampNeg) (nI b)) (1000 + 3) (upd mem (3300 + (mem (1000 + 3)).toNatClampNeg) (nI b) (1000 + 3) + nI 1) (1000 + 3)))) (upd (upd mem (3300 + (mem (1000 + 3)).toNatClampNeg) (nI b)) (1000 + 3) (upd mem (3300 + (mem (1000 + 3)).toNatClampNeg) (nI b) (1000 + 3) + nI 1))
    rw [upd_eq, e1, nC (by omega), upd_ne (by omega), e1, nI_add]
    exact p
  · have c3 : mem (1000 + 3) = nI 110 := c3
    rw [e1, nEq (by omega) (by omega)] at c3
    exact c3
end FD
