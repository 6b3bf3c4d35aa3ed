/-! the law's cases -/
/-- what is only read is never changed by a call -/
theorem zOk_ro {X d y : Nat} {as : List Value} {mem : zMem} {lk : zLk} {L : List Nat} {lkf : zLk} {Lf : List Nat} {Q : Option Value → zMem → Prop} (h : zOk X d y as mem lk L lkf Lf (fun r m => (∀ o, kd o = 13 → ∀ i, i < ln X o → m (o + i) = mem (o + i)) → Q r m)) : zOk X d y as mem lk L lkf Lf Q := by
  refine ⟨h.1, fun l A D κ φ => ?_⟩
  intro p e h1 h2 h3 s m args below h4 h5 hP hK
  obtain ⟨n, o, a1, a2, a3, ⟨⟨r, mem', κ', φ', b1, b2, b3, b4, b5, b6⟩, hz, hk⟩, a5⟩ := h.2 l A D κ φ p e h1 h2 h3 s m args below h4 h5 hP hK
  refine ⟨n, o, a1, a2, a3, ⟨⟨r, mem', κ', φ', b1, ?_, b3, b4, b5, b6⟩, hz, hk⟩, a5⟩
  exact b2 (zXt_eq hP.2.2.2.1 b4 hk (fun o ho => b5 o (Or.inr ho)))
section LC
variable {X d i : Nat} {xs : Nat → Int32} {s : zSg} {lk : zLk} {L : List Nat}
def zLw (i : Int32) : List Value := [.ref 5000, .ref 100, .ref 1000, .int i]
/-- a case of the law: one more call of both, and on -/
def zCase (X d i pc : Nat) (xs : Nat → Int32) (s : zSg) (lk : zLk) (L : List Nat) : Prop := ∃ s' lk1 L1, L.length ≤ L1.length ∧ zpot lk1 L1 ≤ zpot lk L ∧ ∀ mem lkf Lf Q, L1.length ≤ Lf.length → zJ X xs s lk L mem → (∀ mem', zJ X xs s' lk1 L1 mem' → zE X d 225 18 (zLw (nI i + nI 6)) [] mem' lk1 L1 lkf Lf Q) → zE X d 225 pc (zLw (nI i)) [] mem lk L lkf Lf Q
def zRd (X i : Nat) (xs : Nat → Int32) (m : zMem) : Prop := ∀ j, j < 6 → m (5000 + (nI i + nI j).toNatClampNeg) = xs (i + j)
theorem ln5 : ln X 5000 = X := rfl
theorem zin6 (hX : X ≤ 3072) (hi : i + 6 ≤ X) {j : Nat} (hj : j < 6) : vp_in (nI i + nI j) (ln X 5000) := by
  rw [nI_add]; exact vp_in_nI (show i + j < X by omega) (by rw [ln5]; omega)
theorem zRd.of (hX : X ≤ 3072) (hi : i + 6 ≤ X) {mem : zMem} (I : zJ X xs s lk L mem) : zRd X i xs mem := fun j hj => by
  rw [nI_add, nC (by omega)]; exact I.2.2.2.2.2.2 _ (by omega)
theorem zRd.ro (hX : X ≤ 3072) (hi : i + 6 ≤ X) {mem m1 : zMem} (h : zRd X i xs mem) (ro : ∀ o, kd o = 13 → ∀ i, i < ln X o → m1 (o + i) = mem (o + i)) : zRd X i xs m1 := fun j hj => by
  rw [← h j hj]
  refine ro 5000 rfl _ ?_
  rw [nI_add, nC (by omega), ln5]; omega
section AR
variable {y r : Nat} {mem : zMem} {lkf : zLk} {Lf : List Nat} {Q : Option Value → zMem → Prop} {x1 x2 x3 x4 x5 y1 y2 y3 y4 y5 : Int32}
theorem zOk_a1 (e1 : x1 = y1) (h : zOk X d y [.ref r, .int y1] mem lk L lkf Lf Q) : zOk X d y [.ref r, .int x1] mem lk L lkf Lf Q := by subst e1; exact h
theorem zOk_a2 (e1 : x1 = y1) (e2 : x2 = y2) (h : zOk X d y [.ref r, .int y1, .int y2] mem lk L lkf Lf Q) : zOk X d y [.ref r, .int x1, .int x2] mem lk L lkf Lf Q := by subst e1 e2; exact h
theorem zOk_a3 (e1 : x1 = y1) (e2 : x2 = y2) (e3 : x3 = y3) (h : zOk X d y [.ref r, .int y1, .int y2, .int y3] mem lk L lkf Lf Q) : zOk X d y [.ref r, .int x1, .int x2, .int x3] mem lk L lkf Lf Q := by subst e1 e2 e3; exact h
theorem zOk_a4 (e1 : x1 = y1) (e2 : x2 = y2) (e3 : x3 = y3) (e4 : x4 = y4) (h : zOk X d y [.ref r, .int y1, .int y2, .int y3, .int y4] mem lk L lkf Lf Q) : zOk X d y [.ref r, .int x1, .int x2, .int x3, .int x4] mem lk L lkf Lf Q := by subst e1 e2 e3 e4; exact h
theorem zOk_a5 (e1 : x1 = y1) (e2 : x2 = y2) (e3 : x3 = y3) (e4 : x4 = y4) (e5 : x5 = y5) (h : zOk X d y [.ref r, .int y1, .int y2, .int y3, .int y4, .int y5] mem lk L lkf Lf Q) : zOk X d y [.ref r, .int x1, .int x2, .int x3, .int x4, .int x5] mem lk L lkf Lf Q := by subst e1 e2 e3 e4 e5; exact h
end AR
theorem zEy.of {y y' : Nat} {as as' : List Value} (h : zStp X y y' as as' lk L lk L (zJ X xs s lk L) (zJ X xs s lk L)) : zEy X xs y y' as as' s lk L := ⟨s, h⟩
set_option maxRecDepth 20000 in
theorem cs_0 (hX : X ≤ 3072) (hd : 50 < d) (hi : i + 6 ≤ X) : zCase X d i 196 xs s lk L := by
  have H : zEy X xs 91 142 [.ref 100, .int (xs (i + 1)), .int (xs (i + 2)), .int (xs (i + 3))] [.ref 1000, .int (xs (i + 1)), .int (xs (i + 2)), .int (xs (i + 3))] s lk L := ⟨s, st_row hX⟩
  obtain ⟨s', H⟩ := H
  refine ⟨s', lk, L, Nat.le_refl _, Nat.le_refl _, fun mem lkf Lf Q hl I K => ?_⟩
  have R := zRd.of hX hi I
  refine zgoc [] 60 196 (tbl := tL_law) zck_225 rfl (h := ?_)
  refine ⟨Or.inr rfl, zin6 hX hi (by omega), Or.inr rfl, zin6 hX hi (by omega), Or.inr rfl, zin6 hX hi (by omega), rfl, zOk_a3 (R 1 (by omega)) (R 2 (by omega)) (R 3 (by omega)) (zOk_ro (H mem _ _ I (by omega) (fun w m1 ag ro => ?_)))⟩
  have R1 := R.ro hX hi ro
  refine ⟨Or.inr rfl, zin6 hX hi (by omega), Or.inr rfl, zin6 hX hi (by omega), Or.inr rfl, zin6 hX hi (by omega), rfl, zOk_a3 (R1 1 (by omega)) (R1 2 (by omega)) (R1 3 (by omega)) (ag _ _ (by omega) (fun m2 I2 => ⟨fun _ => K m2 I2, fun c => absurd rfl c⟩))⟩
set_option maxRecDepth 20000 in
theorem cs_1 (hX : X ≤ 3072) (hd : 50 < d) (hi : i + 6 ≤ X) : zCase X d i 239 xs s lk L := by
  have H : zEy X xs 92 143 [.ref 100, .int (xs (i + 1)), .int (xs (i + 2)), .int (xs (i + 3))] [.ref 1000, .int (xs (i + 1)), .int (xs (i + 2)), .int (xs (i + 3))] s lk L := ⟨s, st_set hX⟩
  obtain ⟨s', H⟩ := H
  refine ⟨s', lk, L, Nat.le_refl _, Nat.le_refl _, fun mem lkf Lf Q hl I K => ?_⟩
  have R := zRd.of hX hi I
  refine zgoc [] 60 239 (tbl := tL_law) zck_225 rfl (h := ?_)
  refine ⟨Or.inr rfl, zin6 hX hi (by omega), Or.inr rfl, zin6 hX hi (by omega), Or.inr rfl, zin6 hX hi (by omega), rfl, zOk_a3 (R 1 (by omega)) (R 2 (by omega)) (R 3 (by omega)) (zOk_ro (H mem _ _ I (by omega) (fun w m1 ag ro => ?_)))⟩
  have R1 := R.ro hX hi ro
  refine ⟨Or.inr rfl, zin6 hX hi (by omega), Or.inr rfl, zin6 hX hi (by omega), Or.inr rfl, zin6 hX hi (by omega), rfl, zOk_a3 (R1 1 (by omega)) (R1 2 (by omega)) (R1 3 (by omega)) (ag _ _ (by omega) (fun m2 I2 => ⟨fun _ => K m2 I2, fun c => absurd rfl c⟩))⟩
set_option maxRecDepth 20000 in
theorem cs_2 (hX : X ≤ 3072) (hd : 50 < d) (hi : i + 6 ≤ X) : zCase X d i 282 xs s lk L := by
  have H : zEy X xs 93 144 [.ref 100, .int (xs (i + 1)), .int (xs (i + 2)), .int (xs (i + 3)), .int (xs (i + 4)), .int (xs (i + 5))] [.ref 1000, .int (xs (i + 1)), .int (xs (i + 2)), .int (xs (i + 3)), .int (xs (i + 4)), .int (xs (i + 5))] s lk L := ⟨s, st_copy hX⟩
  obtain ⟨s', H⟩ := H
  refine ⟨s', lk, L, Nat.le_refl _, Nat.le_refl _, fun mem lkf Lf Q hl I K => ?_⟩
  have R := zRd.of hX hi I
  refine zgoc [] 60 282 (tbl := tL_law) zck_225 rfl (h := ?_)
  refine ⟨Or.inr rfl, zin6 hX hi (by omega), Or.inr rfl, zin6 hX hi (by omega), Or.inr rfl, zin6 hX hi (by omega), Or.inr rfl, zin6 hX hi (by omega), Or.inr rfl, zin6 hX hi (by omega), rfl, zOk_a5 (R 1 (by omega)) (R 2 (by omega)) (R 3 (by omega)) (R 4 (by omega)) (R 5 (by omega)) (zOk_ro (H mem _ _ I (by omega) (fun w m1 ag ro => ?_)))⟩
  have R1 := R.ro hX hi ro
  refine ⟨Or.inr rfl, zin6 hX hi (by omega), Or.inr rfl, zin6 hX hi (by omega), Or.inr rfl, zin6 hX hi (by omega), Or.inr rfl, zin6 hX hi (by omega), Or.inr rfl, zin6 hX hi (by omega), rfl, zOk_a5 (R1 1 (by omega)) (R1 2 (by omega)) (R1 3 (by omega)) (R1 4 (by omega)) (R1 5 (by omega)) (ag _ _ (by omega) (fun m2 I2 => ⟨fun _ => K m2 I2, fun c => absurd rfl c⟩))⟩
set_option maxRecDepth 20000 in
theorem cs_3 (hX : X ≤ 3072) (hd : 50 < d) (hi : i + 6 ≤ X) : zCase X d i 345 xs s lk L := by
  have H : zEy X xs 94 145 [.ref 100, .int (xs (i + 1))] [.ref 1000, .int (xs (i + 1))] s lk L := ⟨s, st_drop hX⟩
  obtain ⟨s', H⟩ := H
  refine ⟨s', lk, L, Nat.le_refl _, Nat.le_refl _, fun mem lkf Lf Q hl I K => ?_⟩
  have R := zRd.of hX hi I
  refine zgoc [] 60 345 (tbl := tL_law) zck_225 rfl (h := ?_)
  refine ⟨Or.inr rfl, zin6 hX hi (by omega), rfl, zOk_a1 (R 1 (by omega)) (zOk_ro (H mem _ _ I (by omega) (fun w m1 ag ro => ?_)))⟩
  have R1 := R.ro hX hi ro
  refine ⟨Or.inr rfl, zin6 hX hi (by omega), rfl, zOk_a1 (R1 1 (by omega)) (ag _ _ (by omega) (fun m2 I2 => ⟨fun _ => K m2 I2, fun c => absurd rfl c⟩))⟩
set_option maxRecDepth 20000 in
theorem cs_4 (hX : X ≤ 3072) (hd : 50 < d) (hi : i + 6 ≤ X) : zCase X d i 368 xs s lk L := by
  have H : zEy X xs 95 146 [.ref 100, .int (xs (i + 1))] [.ref 1000, .int (xs (i + 1))] s lk L := (by obtain ⟨a, b, h⟩ := st_feed (x := xs (i + 1)) (X := X) (xs := xs) (nx := s.1) (u := s.2.1) (g := s.2.2.1) (gs := s.2.2.2.1) (im := s.2.2.2.2.1) (b := s.2.2.2.2.2.1) (t := s.2.2.2.2.2.2) (lk := lk) (L := L) hX; exact ⟨(s.1, s.2.1, s.2.2.1, s.2.2.2.1, s.2.2.2.2.1, a, b), h⟩)
  obtain ⟨s', H⟩ := H
  refine ⟨s', lk, L, Nat.le_refl _, Nat.le_refl _, fun mem lkf Lf Q hl I K => ?_⟩
  have R := zRd.of hX hi I
  refine zgoc [] 60 368 (tbl := tL_law) zck_225 rfl (h := ?_)
  refine ⟨Or.inr rfl, zin6 hX hi (by omega), rfl, zOk_a1 (R 1 (by omega)) (zOk_ro (H mem _ _ I (by omega) (fun w m1 ag ro => ?_)))⟩
  have R1 := R.ro hX hi ro
  refine ⟨Or.inr rfl, zin6 hX hi (by omega), rfl, zOk_a1 (R1 1 (by omega)) (ag _ _ (by omega) (fun m2 I2 => ⟨fun _ => K m2 I2, fun c => absurd rfl c⟩))⟩
set_option maxRecDepth 20000 in
theorem cs_5 (hX : X ≤ 3072) (hd : 50 < d) (hi : i + 6 ≤ X) : zCase X d i 391 xs s lk L := by
  have H : zEy X xs 96 155 [.ref 100] [.ref 1000] s lk L := ex_house hX
  obtain ⟨s', H⟩ := H
  refine ⟨s', lk, L, Nat.le_refl _, Nat.le_refl _, fun mem lkf Lf Q hl I K => ?_⟩
  have R := zRd.of hX hi I
  refine zgoc [] 60 391 (tbl := tL_law) zck_225 rfl (h := ?_)
  refine ⟨rfl, (zOk_ro (H mem _ _ I (by omega) (fun w m1 ag ro => ?_)))⟩
  have R1 := R.ro hX hi ro
  refine ⟨rfl, (ag _ _ (by omega) (fun m2 I2 => ⟨fun _ => K m2 I2, fun c => absurd rfl c⟩))⟩
set_option maxRecDepth 20000 in
theorem cs_6 (hX : X ≤ 3072) (hd : 50 < d) (hi : i + 6 ≤ X) : zCase X d i 404 xs s lk L := by
  have H : zEy X xs 97 156 [.ref 100] [.ref 1000] s lk L := ⟨s, st_fault⟩
  obtain ⟨s', H⟩ := H
  refine ⟨s', lk, L, Nat.le_refl _, Nat.le_refl _, fun mem lkf Lf Q hl I K => ?_⟩
  have R := zRd.of hX hi I
  refine zgoc [] 60 404 (tbl := tL_law) zck_225 rfl (h := ?_)
  refine ⟨rfl, (zOk_ro (H mem _ _ I (by omega) (fun w m1 ag ro => ?_)))⟩
  have R1 := R.ro hX hi ro
  refine ⟨rfl, (ag _ _ (by omega) (fun m2 I2 => ⟨fun _ => K m2 I2, fun c => absurd rfl c⟩))⟩
set_option maxRecDepth 20000 in
theorem cs_7 (hX : X ≤ 3072) (hd : 50 < d) (hi : i + 6 ≤ X) : zCase X d i 417 xs s lk L := by
  have H : zEy X xs 98 171 [.ref 100] [.ref 1000] s lk L := (by obtain ⟨a, b, c, e, h⟩ := st_undo (X := X) (xs := xs) (nx := s.1) (u := s.2.1) (g := s.2.2.1) (gs := s.2.2.2.1) (im := s.2.2.2.2.1) (b := s.2.2.2.2.2.1) (t := s.2.2.2.2.2.2) (lk := lk) (L := L) hX; exact ⟨(a, b, c, e, s.2.2.2.2), h⟩)
  obtain ⟨s', H⟩ := H
  refine ⟨s', lk, L, Nat.le_refl _, Nat.le_refl _, fun mem lkf Lf Q hl I K => ?_⟩
  have R := zRd.of hX hi I
  refine zgoc [] 60 417 (tbl := tL_law) zck_225 rfl (h := ?_)
  refine ⟨rfl, (zOk_ro (H mem _ _ I (by omega) (fun w m1 ag ro => ?_)))⟩
  have R1 := R.ro hX hi ro
  refine ⟨rfl, (ag _ _ (by omega) (fun m2 I2 => ⟨fun _ => K m2 I2, fun c => absurd rfl c⟩))⟩
set_option maxRecDepth 20000 in
theorem cs_8 (hX : X ≤ 3072) (hd : 50 < d) (hi : i + 6 ≤ X) : zCase X d i 430 xs s lk L := by
  have H : zEx X xs 99 172 [.ref 100, .int (xs (i + 1))] [.ref 1000, .int (xs (i + 1))] s lk L := ex_minutes hX
  obtain ⟨s', lk1, L1, l1, l2, H⟩ := H
  refine ⟨s', lk1, L1, l1, l2, fun mem lkf Lf Q hl I K => ?_⟩
  have R := zRd.of hX hi I
  refine zgoc [] 60 430 (tbl := tL_law) zck_225 rfl (h := ?_)
  refine ⟨Or.inr rfl, zin6 hX hi (by omega), rfl, lk1, L1, hl, l1, zOk_a1 (R 1 (by omega)) (zOk_ro (H mem _ _ I (by omega) (fun w m1 ag ro => ?_)))⟩
  have R1 := R.ro hX hi ro
  refine ⟨Or.inr rfl, zin6 hX hi (by omega), rfl, zOk_a1 (R1 1 (by omega)) (ag _ _ (by omega) (fun m2 I2 => ⟨fun _ => K m2 I2, fun c => absurd rfl c⟩))⟩
set_option maxRecDepth 20000 in
theorem cs_9 (hX : X ≤ 3072) (hd : 50 < d) (hi : i + 6 ≤ X) : zCase X d i 453 xs s lk L := by
  have H : zEx X xs 100 173 [.ref 100, .int (xs (i + 1))] [.ref 1000, .int (xs (i + 1))] s lk L := ex_pull hX
  obtain ⟨s', lk1, L1, l1, l2, H⟩ := H
  refine ⟨s', lk1, L1, l1, l2, fun mem lkf Lf Q hl I K => ?_⟩
  have R := zRd.of hX hi I
  refine zgoc [] 60 453 (tbl := tL_law) zck_225 rfl (h := ?_)
  refine ⟨Or.inr rfl, zin6 hX hi (by omega), rfl, lk1, L1, hl, l1, zOk_a1 (R 1 (by omega)) (zOk_ro (H mem _ _ I (by omega) (fun w m1 ag ro => ?_)))⟩
  have R1 := R.ro hX hi ro
  refine ⟨Or.inr rfl, zin6 hX hi (by omega), rfl, zOk_a1 (R1 1 (by omega)) (ag _ _ (by omega) (fun m2 I2 => ⟨fun _ => K m2 I2, fun c => absurd rfl c⟩))⟩
set_option maxRecDepth 20000 in
theorem cs_10 (hX : X ≤ 3072) (hd : 50 < d) (hi : i + 6 ≤ X) : zCase X d i 476 xs s lk L := by
  have H : zEx X xs 101 174 [.ref 100, .int (xs (i + 1))] [.ref 1000, .int (xs (i + 1))] s lk L := ex_rope hX
  obtain ⟨s', lk1, L1, l1, l2, H⟩ := H
  refine ⟨s', lk1, L1, l1, l2, fun mem lkf Lf Q hl I K => ?_⟩
  have R := zRd.of hX hi I
  refine zgoc [] 60 476 (tbl := tL_law) zck_225 rfl (h := ?_)
  refine ⟨Or.inr rfl, zin6 hX hi (by omega), rfl, lk1, L1, hl, l1, zOk_a1 (R 1 (by omega)) (zOk_ro (H mem _ _ I (by omega) (fun w m1 ag ro => ?_)))⟩
  have R1 := R.ro hX hi ro
  refine ⟨Or.inr rfl, zin6 hX hi (by omega), rfl, zOk_a1 (R1 1 (by omega)) (ag _ _ (by omega) (fun m2 I2 => ⟨fun _ => K m2 I2, fun c => absurd rfl c⟩))⟩
set_option maxRecDepth 20000 in
theorem cs_11 (hX : X ≤ 3072) (hd : 50 < d) (hi : i + 6 ≤ X) : zCase X d i 499 xs s lk L := by
  have H : zEx X xs 102 175 [.ref 100, .int (xs (i + 1))] [.ref 1000, .int (xs (i + 1))] s lk L := ex_room hX
  obtain ⟨s', lk1, L1, l1, l2, H⟩ := H
  refine ⟨s', lk1, L1, l1, l2, fun mem lkf Lf Q hl I K => ?_⟩
  have R := zRd.of hX hi I
  refine zgoc [] 60 499 (tbl := tL_law) zck_225 rfl (h := ?_)
  refine ⟨Or.inr rfl, zin6 hX hi (by omega), rfl, lk1, L1, hl, l1, zOk_a1 (R 1 (by omega)) (zOk_ro (H mem _ _ I (by omega) (fun w m1 ag ro => ?_)))⟩
  have R1 := R.ro hX hi ro
  refine ⟨Or.inr rfl, zin6 hX hi (by omega), rfl, zOk_a1 (R1 1 (by omega)) (ag _ _ (by omega) (fun m2 I2 => ⟨fun _ => K m2 I2, fun c => absurd rfl c⟩))⟩
set_option maxRecDepth 20000 in
theorem cs_12 (hX : X ≤ 3072) (hd : 50 < d) (hi : i + 6 ≤ X) : zCase X d i 522 xs s lk L := by
  have H : zEx X xs 103 177 [.ref 100, .int (xs (i + 1)), .int (xs (i + 2)), .int (xs (i + 3))] [.ref 1000, .int (xs (i + 1)), .int (xs (i + 2)), .int (xs (i + 3))] s lk L := ex_send hX
  obtain ⟨s', lk1, L1, l1, l2, H⟩ := H
  refine ⟨s', lk1, L1, l1, l2, fun mem lkf Lf Q hl I K => ?_⟩
  have R := zRd.of hX hi I
  refine zgoc [] 60 522 (tbl := tL_law) zck_225 rfl (h := ?_)
  refine ⟨Or.inr rfl, zin6 hX hi (by omega), Or.inr rfl, zin6 hX hi (by omega), Or.inr rfl, zin6 hX hi (by omega), rfl, lk1, L1, hl, l1, zOk_a3 (R 1 (by omega)) (R 2 (by omega)) (R 3 (by omega)) (zOk_ro (H mem _ _ I (by omega) (fun w m1 ag ro => ?_)))⟩
  have R1 := R.ro hX hi ro
  refine ⟨Or.inr rfl, zin6 hX hi (by omega), Or.inr rfl, zin6 hX hi (by omega), Or.inr rfl, zin6 hX hi (by omega), rfl, zOk_a3 (R1 1 (by omega)) (R1 2 (by omega)) (R1 3 (by omega)) (ag _ _ (by omega) (fun m2 I2 => ⟨fun _ => K m2 I2, fun c => absurd rfl c⟩))⟩
set_option maxRecDepth 20000 in
theorem cs_13 (hX : X ≤ 3072) (hd : 50 < d) (hi : i + 6 ≤ X) : zCase X d i 565 xs s lk L := by
  have H : zEy X xs 104 178 [.ref 100, .int (xs (i + 1)), .int (xs (i + 2))] [.ref 1000, .int (xs (i + 1)), .int (xs (i + 2))] s lk L := ⟨s, st_dish⟩
  obtain ⟨s', H⟩ := H
  refine ⟨s', lk, L, Nat.le_refl _, Nat.le_refl _, fun mem lkf Lf Q hl I K => ?_⟩
  have R := zRd.of hX hi I
  refine zgoc [] 60 565 (tbl := tL_law) zck_225 rfl (h := ?_)
  refine ⟨Or.inr rfl, zin6 hX hi (by omega), Or.inr rfl, zin6 hX hi (by omega), rfl, zOk_a2 (R 1 (by omega)) (R 2 (by omega)) (zOk_ro (H mem _ _ I (by omega) (fun w m1 ag ro => ?_)))⟩
  have R1 := R.ro hX hi ro
  refine ⟨Or.inr rfl, zin6 hX hi (by omega), Or.inr rfl, zin6 hX hi (by omega), rfl, zOk_a2 (R1 1 (by omega)) (R1 2 (by omega)) (ag _ _ (by omega) (fun m2 I2 => ⟨fun _ => K m2 I2, fun c => absurd rfl c⟩))⟩
set_option maxRecDepth 20000 in
theorem cs_14 (hX : X ≤ 3072) (hd : 50 < d) (hi : i + 6 ≤ X) : zCase X d i 598 xs s lk L := by
  have H : zEy X xs 105 179 [.ref 100, .int (xs (i + 1))] [.ref 1000, .int (xs (i + 1))] s lk L := ⟨s, st_car⟩
  obtain ⟨s', H⟩ := H
  refine ⟨s', lk, L, Nat.le_refl _, Nat.le_refl _, fun mem lkf Lf Q hl I K => ?_⟩
  have R := zRd.of hX hi I
  refine zgoc [] 60 598 (tbl := tL_law) zck_225 rfl (h := ?_)
  refine ⟨Or.inr rfl, zin6 hX hi (by omega), rfl, zOk_a1 (R 1 (by omega)) (zOk_ro (H mem _ _ I (by omega) (fun w m1 ag ro => ?_)))⟩
  have R1 := R.ro hX hi ro
  refine ⟨Or.inr rfl, zin6 hX hi (by omega), rfl, zOk_a1 (R1 1 (by omega)) (ag _ _ (by omega) (fun m2 I2 => ⟨fun _ => K m2 I2, fun c => absurd rfl c⟩))⟩
set_option maxRecDepth 20000 in
theorem cs_15 (hX : X ≤ 3072) (hd : 50 < d) (hi : i + 6 ≤ X) : zCase X d i 621 xs s lk L := by
  have H : zEy X xs 106 182 [.ref 100, .int (xs (i + 1)), .int (xs (i + 2)), .int (xs (i + 3))] [.ref 1000, .int (xs (i + 1)), .int (xs (i + 2)), .int (xs (i + 3))] s lk L := ⟨s, st_ahead hX⟩
  obtain ⟨s', H⟩ := H
  refine ⟨s', lk, L, Nat.le_refl _, Nat.le_refl _, fun mem lkf Lf Q hl I K => ?_⟩
  have R := zRd.of hX hi I
  refine zgoc [] 60 621 (tbl := tL_law) zck_225 rfl (h := ?_)
  refine ⟨Or.inr rfl, zin6 hX hi (by omega), Or.inr rfl, zin6 hX hi (by omega), Or.inr rfl, zin6 hX hi (by omega), rfl, zOk_a3 (R 1 (by omega)) (R 2 (by omega)) (R 3 (by omega)) (zOk_ro (H mem _ _ I (by omega) (fun w m1 ag ro => ?_)))⟩
  have R1 := R.ro hX hi ro
  refine ⟨Or.inr rfl, zin6 hX hi (by omega), Or.inr rfl, zin6 hX hi (by omega), Or.inr rfl, zin6 hX hi (by omega), rfl, zOk_a3 (R1 1 (by omega)) (R1 2 (by omega)) (R1 3 (by omega)) (ag _ _ (by omega) (fun m2 I2 => ⟨fun _ => K m2 I2, fun c => absurd rfl c⟩))⟩
set_option maxRecDepth 20000 in
theorem cs_16 (hX : X ≤ 3072) (hd : 50 < d) (hi : i + 6 ≤ X) : zCase X d i 664 xs s lk L := by
  have H : zEy X xs 107 183 [.ref 100, .int (xs (i + 1))] [.ref 1000, .int (xs (i + 1))] s lk L := ⟨s, st_later hX⟩
  obtain ⟨s', H⟩ := H
  refine ⟨s', lk, L, Nat.le_refl _, Nat.le_refl _, fun mem lkf Lf Q hl I K => ?_⟩
  have R := zRd.of hX hi I
  refine zgoc [] 60 664 (tbl := tL_law) zck_225 rfl (h := ?_)
  refine ⟨Or.inr rfl, zin6 hX hi (by omega), rfl, zOk_a1 (R 1 (by omega)) (zOk_ro (H mem _ _ I (by omega) (fun w m1 ag ro => ?_)))⟩
  have R1 := R.ro hX hi ro
  refine ⟨Or.inr rfl, zin6 hX hi (by omega), rfl, zOk_a1 (R1 1 (by omega)) (ag _ _ (by omega) (fun m2 I2 => ⟨fun _ => K m2 I2, fun c => absurd rfl c⟩))⟩
set_option maxRecDepth 20000 in
theorem cs_17 (hX : X ≤ 3072) (hd : 50 < d) (hi : i + 6 ≤ X) : zCase X d i 687 xs s lk L := by
  have H : zEy X xs 108 185 [.ref 100, .int (xs (i + 1))] [.ref 1000, .int (xs (i + 1))] s lk L := ⟨s, st_when hX⟩
  obtain ⟨s', H⟩ := H
  refine ⟨s', lk, L, Nat.le_refl _, Nat.le_refl _, fun mem lkf Lf Q hl I K => ?_⟩
  have R := zRd.of hX hi I
  refine zgoc [] 60 687 (tbl := tL_law) zck_225 rfl (h := ?_)
  refine ⟨Or.inr rfl, zin6 hX hi (by omega), rfl, zOk_a1 (R 1 (by omega)) (zOk_ro (H mem _ _ I (by omega) (fun w m1 ag ro => ?_)))⟩
  have R1 := R.ro hX hi ro
  refine ⟨Or.inr rfl, zin6 hX hi (by omega), rfl, zOk_a1 (R1 1 (by omega)) (ag _ _ (by omega) (fun m2 I2 => ⟨fun _ => K m2 I2, fun c => absurd rfl c⟩))⟩
set_option maxRecDepth 20000 in
theorem cs_18 (hX : X ≤ 3072) (hd : 50 < d) (hi : i + 6 ≤ X) : zCase X d i 710 xs s lk L := by
  have H : zEy X xs 109 186 [.ref 100] [.ref 1000] s lk L := ⟨s, st_done hX⟩
  obtain ⟨s', H⟩ := H
  refine ⟨s', lk, L, Nat.le_refl _, Nat.le_refl _, fun mem lkf Lf Q hl I K => ?_⟩
  have R := zRd.of hX hi I
  refine zgoc [] 60 710 (tbl := tL_law) zck_225 rfl (h := ?_)
  refine ⟨rfl, (zOk_ro (H mem _ _ I (by omega) (fun w m1 ag ro => ?_)))⟩
  have R1 := R.ro hX hi ro
  refine ⟨rfl, (ag _ _ (by omega) (fun m2 I2 => ⟨fun _ => K m2 I2, fun c => absurd rfl c⟩))⟩
set_option maxRecDepth 20000 in
theorem cs_19 (hX : X ≤ 3072) (hd : 50 < d) (hi : i + 6 ≤ X) : zCase X d i 723 xs s lk L := by
  have H : zEy X xs 110 187 [.ref 100, .int (xs (i + 1))] [.ref 1000, .int (xs (i + 1))] s lk L := ⟨s, st_fine hX⟩
  obtain ⟨s', H⟩ := H
  refine ⟨s', lk, L, Nat.le_refl _, Nat.le_refl _, fun mem lkf Lf Q hl I K => ?_⟩
  have R := zRd.of hX hi I
  refine zgoc [] 60 723 (tbl := tL_law) zck_225 rfl (h := ?_)
  refine ⟨Or.inr rfl, zin6 hX hi (by omega), rfl, zOk_a1 (R 1 (by omega)) (zOk_ro (H mem _ _ I (by omega) (fun w m1 ag ro => ?_)))⟩
  have R1 := R.ro hX hi ro
  refine ⟨Or.inr rfl, zin6 hX hi (by omega), rfl, zOk_a1 (R1 1 (by omega)) (ag _ _ (by omega) (fun m2 I2 => ⟨fun _ => K m2 I2, fun c => absurd rfl c⟩))⟩
set_option maxRecDepth 20000 in
theorem cs_20 (hX : X ≤ 3072) (hd : 50 < d) (hi : i + 6 ≤ X) : zCase X d i 746 xs s lk L := by
  have H : zEy X xs 111 188 [.ref 100, .int (xs (i + 1)), .int (xs (i + 2))] [.ref 1000, .int (xs (i + 1)), .int (xs (i + 2))] s lk L := ⟨s, st_site hX⟩
  obtain ⟨s', H⟩ := H
  refine ⟨s', lk, L, Nat.le_refl _, Nat.le_refl _, fun mem lkf Lf Q hl I K => ?_⟩
  have R := zRd.of hX hi I
  refine zgoc [] 60 746 (tbl := tL_law) zck_225 rfl (h := ?_)
  refine ⟨Or.inr rfl, zin6 hX hi (by omega), Or.inr rfl, zin6 hX hi (by omega), rfl, zOk_a2 (R 1 (by omega)) (R 2 (by omega)) (zOk_ro (H mem _ _ I (by omega) (fun w m1 ag ro => ?_)))⟩
  have R1 := R.ro hX hi ro
  refine ⟨Or.inr rfl, zin6 hX hi (by omega), Or.inr rfl, zin6 hX hi (by omega), rfl, zOk_a2 (R1 1 (by omega)) (R1 2 (by omega)) (ag _ _ (by omega) (fun m2 I2 => ⟨fun _ => K m2 I2, fun c => absurd rfl c⟩))⟩
set_option maxRecDepth 20000 in
theorem cs_21 (hX : X ≤ 3072) (hd : 50 < d) (hi : i + 6 ≤ X) : zCase X d i 779 xs s lk L := by
  have H : zEy X xs 112 189 [.ref 100, .int (xs (i + 1)), .int (xs (i + 2))] [.ref 1000, .int (xs (i + 1)), .int (xs (i + 2))] s lk L := ⟨s, st_need hX⟩
  obtain ⟨s', H⟩ := H
  refine ⟨s', lk, L, Nat.le_refl _, Nat.le_refl _, fun mem lkf Lf Q hl I K => ?_⟩
  have R := zRd.of hX hi I
  refine zgoc [] 60 779 (tbl := tL_law) zck_225 rfl (h := ?_)
  refine ⟨Or.inr rfl, zin6 hX hi (by omega), Or.inr rfl, zin6 hX hi (by omega), rfl, zOk_a2 (R 1 (by omega)) (R 2 (by omega)) (zOk_ro (H mem _ _ I (by omega) (fun w m1 ag ro => ?_)))⟩
  have R1 := R.ro hX hi ro
  refine ⟨Or.inr rfl, zin6 hX hi (by omega), Or.inr rfl, zin6 hX hi (by omega), rfl, zOk_a2 (R1 1 (by omega)) (R1 2 (by omega)) (ag _ _ (by omega) (fun m2 I2 => ⟨fun _ => K m2 I2, fun c => absurd rfl c⟩))⟩
set_option maxRecDepth 20000 in
theorem cs_22 (hX : X ≤ 3072) (hd : 50 < d) (hi : i + 6 ≤ X) : zCase X d i 812 xs s lk L := by
  have H : zEy X xs 113 192 [.ref 100, .int (xs (i + 1)), .int (xs (i + 2))] [.ref 1000, .int (xs (i + 1)), .int (xs (i + 2))] s lk L := ⟨s, st_ranks hX⟩
  obtain ⟨s', H⟩ := H
  refine ⟨s', lk, L, Nat.le_refl _, Nat.le_refl _, fun mem lkf Lf Q hl I K => ?_⟩
  have R := zRd.of hX hi I
  refine zgoc [] 60 812 (tbl := tL_law) zck_225 rfl (h := ?_)
  refine ⟨Or.inr rfl, zin6 hX hi (by omega), Or.inr rfl, zin6 hX hi (by omega), rfl, zOk_a2 (R 1 (by omega)) (R 2 (by omega)) (zOk_ro (H mem _ _ I (by omega) (fun w m1 ag ro => ?_)))⟩
  have R1 := R.ro hX hi ro
  refine ⟨Or.inr rfl, zin6 hX hi (by omega), Or.inr rfl, zin6 hX hi (by omega), rfl, zOk_a2 (R1 1 (by omega)) (R1 2 (by omega)) (ag _ _ (by omega) (fun m2 I2 => ⟨fun _ => K m2 I2, fun c => absurd rfl c⟩))⟩
set_option maxRecDepth 20000 in
theorem cs_23 (hX : X ≤ 3072) (hd : 50 < d) (hi : i + 6 ≤ X) : zCase X d i 845 xs s lk L := by
  have H : zEy X xs 114 193 [.ref 100, .int (xs (i + 1))] [.ref 1000, .int (xs (i + 1))] s lk L := ⟨s, st_holds⟩
  obtain ⟨s', H⟩ := H
  refine ⟨s', lk, L, Nat.le_refl _, Nat.le_refl _, fun mem lkf Lf Q hl I K => ?_⟩
  have R := zRd.of hX hi I
  refine zgoc [] 60 845 (tbl := tL_law) zck_225 rfl (h := ?_)
  refine ⟨Or.inr rfl, zin6 hX hi (by omega), rfl, zOk_a1 (R 1 (by omega)) (zOk_ro (H mem _ _ I (by omega) (fun w m1 ag ro => ?_)))⟩
  have R1 := R.ro hX hi ro
  refine ⟨Or.inr rfl, zin6 hX hi (by omega), rfl, zOk_a1 (R1 1 (by omega)) (ag _ _ (by omega) (fun m2 I2 => ⟨fun _ => K m2 I2, fun c => absurd rfl c⟩))⟩
set_option maxRecDepth 20000 in
theorem cs_24 (hX : X ≤ 3072) (hd : 50 < d) (hi : i + 6 ≤ X) : zCase X d i 868 xs s lk L := by
  have H : zEy X xs 115 194 [.ref 100, .int (xs (i + 1)), .int (xs (i + 2))] [.ref 1000, .int (xs (i + 1)), .int (xs (i + 2))] s lk L := ⟨s, st_share⟩
  obtain ⟨s', H⟩ := H
  refine ⟨s', lk, L, Nat.le_refl _, Nat.le_refl _, fun mem lkf Lf Q hl I K => ?_⟩
  have R := zRd.of hX hi I
  refine zgoc [] 60 868 (tbl := tL_law) zck_225 rfl (h := ?_)
  refine ⟨Or.inr rfl, zin6 hX hi (by omega), Or.inr rfl, zin6 hX hi (by omega), rfl, zOk_a2 (R 1 (by omega)) (R 2 (by omega)) (zOk_ro (H mem _ _ I (by omega) (fun w m1 ag ro => ?_)))⟩
  have R1 := R.ro hX hi ro
  refine ⟨Or.inr rfl, zin6 hX hi (by omega), Or.inr rfl, zin6 hX hi (by omega), rfl, zOk_a2 (R1 1 (by omega)) (R1 2 (by omega)) (ag _ _ (by omega) (fun m2 I2 => ⟨fun _ => K m2 I2, fun c => absurd rfl c⟩))⟩
set_option maxRecDepth 20000 in
theorem cs_25 (hX : X ≤ 3072) (hd : 50 < d) (hi : i + 6 ≤ X) : zCase X d i 901 xs s lk L := by
  have H : zEy X xs 116 196 [.ref 100, .int (xs (i + 1)), .int (xs (i + 2))] [.ref 1000, .int (xs (i + 1)), .int (xs (i + 2))] s lk L := ⟨s, st_byTurns hX⟩
  obtain ⟨s', H⟩ := H
  refine ⟨s', lk, L, Nat.le_refl _, Nat.le_refl _, fun mem lkf Lf Q hl I K => ?_⟩
  have R := zRd.of hX hi I
  refine zgoc [] 60 901 (tbl := tL_law) zck_225 rfl (h := ?_)
  refine ⟨Or.inr rfl, zin6 hX hi (by omega), Or.inr rfl, zin6 hX hi (by omega), rfl, zOk_a2 (R 1 (by omega)) (R 2 (by omega)) (zOk_ro (H mem _ _ I (by omega) (fun w m1 ag ro => ?_)))⟩
  have R1 := R.ro hX hi ro
  refine ⟨Or.inr rfl, zin6 hX hi (by omega), Or.inr rfl, zin6 hX hi (by omega), rfl, zOk_a2 (R1 1 (by omega)) (R1 2 (by omega)) (ag _ _ (by omega) (fun m2 I2 => ⟨fun _ => K m2 I2, fun c => absurd rfl c⟩))⟩
set_option maxRecDepth 20000 in
theorem cs_26 (hX : X ≤ 3072) (hd : 50 < d) (hi : i + 6 ≤ X) : zCase X d i 934 xs s lk L := by
  have H : zEy X xs 117 198 [.ref 100, .int (xs (i + 1)), .int (xs (i + 2)), .int (xs (i + 3)), .int (xs (i + 4)), .int (xs (i + 5))] [.ref 1000, .int (xs (i + 1)), .int (xs (i + 2)), .int (xs (i + 3)), .int (xs (i + 4)), .int (xs (i + 5))] s lk L := ⟨s, st_who hX⟩
  obtain ⟨s', H⟩ := H
  refine ⟨s', lk, L, Nat.le_refl _, Nat.le_refl _, fun mem lkf Lf Q hl I K => ?_⟩
  have R := zRd.of hX hi I
  refine zgoc [] 60 934 (tbl := tL_law) zck_225 rfl (h := ?_)
  refine ⟨Or.inr rfl, zin6 hX hi (by omega), Or.inr rfl, zin6 hX hi (by omega), Or.inr rfl, zin6 hX hi (by omega), Or.inr rfl, zin6 hX hi (by omega), Or.inr rfl, zin6 hX hi (by omega), rfl, zOk_a5 (R 1 (by omega)) (R 2 (by omega)) (R 3 (by omega)) (R 4 (by omega)) (R 5 (by omega)) (zOk_ro (H mem _ _ I (by omega) (fun w m1 ag ro => ?_)))⟩
  have R1 := R.ro hX hi ro
  refine ⟨Or.inr rfl, zin6 hX hi (by omega), Or.inr rfl, zin6 hX hi (by omega), Or.inr rfl, zin6 hX hi (by omega), Or.inr rfl, zin6 hX hi (by omega), Or.inr rfl, zin6 hX hi (by omega), rfl, zOk_a5 (R1 1 (by omega)) (R1 2 (by omega)) (R1 3 (by omega)) (R1 4 (by omega)) (R1 5 (by omega)) (ag _ _ (by omega) (fun m2 I2 => ⟨fun _ => K m2 I2, fun c => absurd rfl c⟩))⟩
set_option maxRecDepth 20000 in
theorem cs_27 (hX : X ≤ 3072) (hd : 50 < d) (hi : i + 6 ≤ X) : zCase X d i 997 xs s lk L := by
  have H : zExL X xs 118 199 [.ref 100, .int (xs (i + 1)), .int (xs (i + 2)), .int (xs (i + 3)), .int (xs (i + 4))] [.ref 1000, .int (xs (i + 1)), .int (xs (i + 2)), .int (xs (i + 3)), .int (xs (i + 4))] s lk L := ex_stuck hX
  obtain ⟨s', lk1, L1, l1, l2, H⟩ := H
  refine ⟨s', lk1, L1, l1, l2, fun mem lkf Lf Q hl I K => ?_⟩
  have R := zRd.of hX hi I
  refine zgoc [] 60 997 (tbl := tL_law) zck_225 rfl (h := ?_)
  refine ⟨Or.inr rfl, zin6 hX hi (by omega), Or.inr rfl, zin6 hX hi (by omega), Or.inr rfl, zin6 hX hi (by omega), Or.inr rfl, zin6 hX hi (by omega), rfl, lk1, L1, hl, l1, zOk_a4 (R 1 (by omega)) (R 2 (by omega)) (R 3 (by omega)) (R 4 (by omega)) (zOk_ro (H mem _ _ I (by omega) (fun w m1 ag ro => ?_)))⟩
  have R1 := R.ro hX hi ro
  refine ⟨Or.inr rfl, zin6 hX hi (by omega), Or.inr rfl, zin6 hX hi (by omega), Or.inr rfl, zin6 hX hi (by omega), Or.inr rfl, zin6 hX hi (by omega), rfl, zOk_a4 (R1 1 (by omega)) (R1 2 (by omega)) (R1 3 (by omega)) (R1 4 (by omega)) (ag _ _ (by omega) (fun m2 I2 => ⟨fun _ => K m2 I2, fun c => by rw [cmp_eq] at c; exact absurd rfl c⟩))⟩
set_option maxRecDepth 20000 in
theorem cs_28 (hX : X ≤ 3072) (hd : 50 < d) (hi : i + 6 ≤ X) : zCase X d i 1051 xs s lk L := by
  have H : zEy X xs 119 200 [.ref 100, .int (xs (i + 1)), .int (xs (i + 2)), .int (xs (i + 3))] [.ref 1000, .int (xs (i + 1)), .int (xs (i + 2)), .int (xs (i + 3))] s lk L := ⟨s, st_drawn hX⟩
  obtain ⟨s', H⟩ := H
  refine ⟨s', lk, L, Nat.le_refl _, Nat.le_refl _, fun mem lkf Lf Q hl I K => ?_⟩
  have R := zRd.of hX hi I
  refine zgoc [] 60 1051 (tbl := tL_law) zck_225 rfl (h := ?_)
  refine ⟨Or.inr rfl, zin6 hX hi (by omega), Or.inr rfl, zin6 hX hi (by omega), Or.inr rfl, zin6 hX hi (by omega), rfl, zOk_a3 (R 1 (by omega)) (R 2 (by omega)) (R 3 (by omega)) (zOk_ro (H mem _ _ I (by omega) (fun w m1 ag ro => ?_)))⟩
  have R1 := R.ro hX hi ro
  refine ⟨Or.inr rfl, zin6 hX hi (by omega), Or.inr rfl, zin6 hX hi (by omega), Or.inr rfl, zin6 hX hi (by omega), rfl, zOk_a3 (R1 1 (by omega)) (R1 2 (by omega)) (R1 3 (by omega)) (ag _ _ (by omega) (fun m2 I2 => ⟨fun _ => K m2 I2, fun c => absurd rfl c⟩))⟩
set_option maxRecDepth 20000 in
theorem cs_29 (hX : X ≤ 3072) (hd : 50 < d) (hi : i + 6 ≤ X) : zCase X d i 1094 xs s lk L := by
  have H : zEx X xs 120 201 [.ref 100, .int (xs (i + 1))] [.ref 1000, .int (xs (i + 1))] s lk L := ex_image hX
  obtain ⟨s', lk1, L1, l1, l2, H⟩ := H
  refine ⟨s', lk1, L1, l1, l2, fun mem lkf Lf Q hl I K => ?_⟩
  have R := zRd.of hX hi I
  refine zgoc [] 60 1094 (tbl := tL_law) zck_225 rfl (h := ?_)
  refine ⟨Or.inr rfl, zin6 hX hi (by omega), rfl, lk1, L1, hl, l1, zOk_a1 (R 1 (by omega)) (zOk_ro (H mem _ _ I (by omega) (fun w m1 ag ro => ?_)))⟩
  have R1 := R.ro hX hi ro
  refine ⟨Or.inr rfl, zin6 hX hi (by omega), rfl, zOk_a1 (R1 1 (by omega)) (ag _ _ (by omega) (fun m2 I2 => ⟨fun _ => K m2 I2, fun c => absurd rfl c⟩))⟩
set_option maxRecDepth 20000 in
theorem cs_30 (hX : X ≤ 3072) (hd : 50 < d) (hi : i + 6 ≤ X) : zCase X d i 1117 xs s lk L := by
  have H : zEy X xs 121 202 [.ref 100, .int (xs (i + 1))] [.ref 1000, .int (xs (i + 1))] s lk L := (by obtain ⟨a, b, c, e, h⟩ := st_restore (x := xs (i + 1)) (X := X) (xs := xs) (nx := s.1) (u := s.2.1) (g := s.2.2.1) (gs := s.2.2.2.1) (im := s.2.2.2.2.1) (b := s.2.2.2.2.2.1) (t := s.2.2.2.2.2.2) (lk := lk) (L := L) hX; exact ⟨(a, b, c, e, s.2.2.2.2), h⟩)
  obtain ⟨s', H⟩ := H
  refine ⟨s', lk, L, Nat.le_refl _, Nat.le_refl _, fun mem lkf Lf Q hl I K => ?_⟩
  have R := zRd.of hX hi I
  refine zgoc [] 60 1117 (tbl := tL_law) zck_225 rfl (h := ?_)
  refine ⟨Or.inr rfl, zin6 hX hi (by omega), rfl, zOk_a1 (R 1 (by omega)) (zOk_ro (H mem _ _ I (by omega) (fun w m1 ag ro => ?_)))⟩
  have R1 := R.ro hX hi ro
  refine ⟨Or.inr rfl, zin6 hX hi (by omega), rfl, zOk_a1 (R1 1 (by omega)) (ag _ _ (by omega) (fun m2 I2 => ⟨fun _ => K m2 I2, fun c => absurd rfl c⟩))⟩
set_option maxRecDepth 20000 in
theorem cs_31 (hX : X ≤ 3072) (hd : 50 < d) (hi : i + 6 ≤ X) : zCase X d i 1140 xs s lk L := by
  have H : zEy X xs 122 203 [.ref 100, .int (xs (i + 1))] [.ref 1000, .int (xs (i + 1))] s lk L := ⟨s, st_kind⟩
  obtain ⟨s', H⟩ := H
  refine ⟨s', lk, L, Nat.le_refl _, Nat.le_refl _, fun mem lkf Lf Q hl I K => ?_⟩
  have R := zRd.of hX hi I
  refine zgoc [] 60 1140 (tbl := tL_law) zck_225 rfl (h := ?_)
  refine ⟨Or.inr rfl, zin6 hX hi (by omega), rfl, zOk_a1 (R 1 (by omega)) (zOk_ro (H mem _ _ I (by omega) (fun w m1 ag ro => ?_)))⟩
  have R1 := R.ro hX hi ro
  refine ⟨Or.inr rfl, zin6 hX hi (by omega), rfl, zOk_a1 (R1 1 (by omega)) (ag _ _ (by omega) (fun m2 I2 => ⟨fun _ => K m2 I2, fun c => absurd rfl c⟩))⟩
set_option maxRecDepth 20000 in
theorem cs_32 (hX : X ≤ 3072) (hd : 50 < d) (hi : i + 6 ≤ X) : zCase X d i 1163 xs s lk L := by
  have H : zEy X xs 123 205 [.ref 100, .int (xs (i + 1)), .int (xs (i + 2))] [.ref 1000, .int (xs (i + 1)), .int (xs (i + 2))] s lk L := ⟨s, st_as hX⟩
  obtain ⟨s', H⟩ := H
  refine ⟨s', lk, L, Nat.le_refl _, Nat.le_refl _, fun mem lkf Lf Q hl I K => ?_⟩
  have R := zRd.of hX hi I
  refine zgoc [] 60 1163 (tbl := tL_law) zck_225 rfl (h := ?_)
  refine ⟨Or.inr rfl, zin6 hX hi (by omega), Or.inr rfl, zin6 hX hi (by omega), rfl, zOk_a2 (R 1 (by omega)) (R 2 (by omega)) (zOk_ro (H mem _ _ I (by omega) (fun w m1 ag ro => ?_)))⟩
  have R1 := R.ro hX hi ro
  refine ⟨Or.inr rfl, zin6 hX hi (by omega), Or.inr rfl, zin6 hX hi (by omega), rfl, zOk_a2 (R1 1 (by omega)) (R1 2 (by omega)) (ag _ _ (by omega) (fun m2 I2 => ⟨fun _ => K m2 I2, fun c => absurd rfl c⟩))⟩
set_option maxRecDepth 20000 in
theorem cs_33 (hX : X ≤ 3072) (hd : 50 < d) (hi : i + 6 ≤ X) : zCase X d i 1196 xs s lk L := by
  have H : zEy X xs 124 215 [.ref 100, .int (xs (i + 1)), .int (xs (i + 2))] [.ref 1000, .int (xs (i + 1)), .int (xs (i + 2))] s lk L := ⟨s, st_ask hX⟩
  obtain ⟨s', H⟩ := H
  refine ⟨s', lk, L, Nat.le_refl _, Nat.le_refl _, fun mem lkf Lf Q hl I K => ?_⟩
  have R := zRd.of hX hi I
  refine zgoc [] 60 1196 (tbl := tL_law) zck_225 rfl (h := ?_)
  refine ⟨Or.inr rfl, zin6 hX hi (by omega), Or.inr rfl, zin6 hX hi (by omega), rfl, zOk_a2 (R 1 (by omega)) (R 2 (by omega)) (zOk_ro (H mem _ _ I (by omega) (fun w m1 ag ro => ?_)))⟩
  have R1 := R.ro hX hi ro
  refine ⟨Or.inr rfl, zin6 hX hi (by omega), Or.inr rfl, zin6 hX hi (by omega), rfl, zOk_a2 (R1 1 (by omega)) (R1 2 (by omega)) (ag _ _ (by omega) (fun m2 I2 => ⟨fun _ => K m2 I2, fun c => absurd rfl c⟩))⟩
set_option maxRecDepth 20000 in
theorem cs_34 (hX : X ≤ 3072) (hd : 50 < d) (hi : i + 6 ≤ X) : zCase X d i 1229 xs s lk L := by
  have H : zEy X xs 125 216 [.ref 100, .int (xs (i + 1))] [.ref 1000, .int (xs (i + 1))] s lk L := ⟨s, st_trace⟩
  obtain ⟨s', H⟩ := H
  refine ⟨s', lk, L, Nat.le_refl _, Nat.le_refl _, fun mem lkf Lf Q hl I K => ?_⟩
  have R := zRd.of hX hi I
  refine zgoc [] 60 1229 (tbl := tL_law) zck_225 rfl (h := ?_)
  refine ⟨Or.inr rfl, zin6 hX hi (by omega), rfl, zOk_a1 (R 1 (by omega)) (zOk_ro (H mem _ _ I (by omega) (fun w m1 ag ro => ?_)))⟩
  have R1 := R.ro hX hi ro
  refine ⟨Or.inr rfl, zin6 hX hi (by omega), rfl, zOk_a1 (R1 1 (by omega)) (ag _ _ (by omega) (fun m2 I2 => ⟨fun _ => K m2 I2, fun c => absurd rfl c⟩))⟩
set_option maxRecDepth 20000 in
theorem cs_35 (hX : X ≤ 3072) (hd : 50 < d) (hi : i + 6 ≤ X) : zCase X d i 1252 xs s lk L := by
  have H : zEy X xs 126 219 [.ref 100, .int (xs (i + 1))] [.ref 1000, .int (xs (i + 1))] s lk L := ⟨s, st_count⟩
  obtain ⟨s', H⟩ := H
  refine ⟨s', lk, L, Nat.le_refl _, Nat.le_refl _, fun mem lkf Lf Q hl I K => ?_⟩
  have R := zRd.of hX hi I
  refine zgoc [] 60 1252 (tbl := tL_law) zck_225 rfl (h := ?_)
  refine ⟨Or.inr rfl, zin6 hX hi (by omega), rfl, zOk_a1 (R 1 (by omega)) (zOk_ro (H mem _ _ I (by omega) (fun w m1 ag ro => ?_)))⟩
  have R1 := R.ro hX hi ro
  refine ⟨Or.inr rfl, zin6 hX hi (by omega), rfl, zOk_a1 (R1 1 (by omega)) (ag _ _ (by omega) (fun m2 I2 => ⟨fun _ => K m2 I2, fun c => absurd rfl c⟩))⟩
set_option maxRecDepth 20000 in
theorem cs_36 (hX : X ≤ 3072) (hd : 50 < d) (hi : i + 6 ≤ X) : zCase X d i 1275 xs s lk L := by
  have H : zEy X xs 127 220 [.ref 100] [.ref 1000] s lk L := ⟨s, st_status⟩
  obtain ⟨s', H⟩ := H
  refine ⟨s', lk, L, Nat.le_refl _, Nat.le_refl _, fun mem lkf Lf Q hl I K => ?_⟩
  have R := zRd.of hX hi I
  refine zgoc [] 60 1275 (tbl := tL_law) zck_225 rfl (h := ?_)
  refine ⟨rfl, (zOk_ro (H mem _ _ I (by omega) (fun w m1 ag ro => ?_)))⟩
  have R1 := R.ro hX hi ro
  refine ⟨rfl, (ag _ _ (by omega) (fun m2 I2 => ⟨fun _ => K m2 I2, fun c => absurd rfl c⟩))⟩
end LC
