/-! the law's rows are right -/
theorem zall_cut {α : Type} (f : α → Bool) (n : Nat) (l : List α) (h1 : (l.take n).all f = true) (h2 : (l.drop n).all f = true) : l.all f = true := by
  rw [← List.take_append_drop n l, List.all_append, h1, h2]; rfl
theorem zall_nil {α : Type} (f : α → Bool) (n : Nat) (l : List α) (h : l.length ≤ n) : (l.drop n).all f = true := by
  rw [List.drop_eq_nil_of_le h]; rfl
theorem zlw_len : (zmT 225).length ≤ 960 := by decide +kernel
theorem zlw_adj : zadj (zmT 225) = true := by decide +kernel
theorem zlw_0 : (((zmT 225).drop 0).take 40).all (zrc 225) = true := by decide +kernel
theorem zlw_1 : (((zmT 225).drop 40).take 40).all (zrc 225) = true := by decide +kernel
theorem zlw_2 : (((zmT 225).drop 80).take 40).all (zrc 225) = true := by decide +kernel
theorem zlw_3 : (((zmT 225).drop 120).take 40).all (zrc 225) = true := by decide +kernel
theorem zlw_4 : (((zmT 225).drop 160).take 40).all (zrc 225) = true := by decide +kernel
theorem zlw_5 : (((zmT 225).drop 200).take 40).all (zrc 225) = true := by decide +kernel
theorem zlw_6 : (((zmT 225).drop 240).take 40).all (zrc 225) = true := by decide +kernel
theorem zlw_7 : (((zmT 225).drop 280).take 40).all (zrc 225) = true := by decide +kernel
theorem zlw_8 : (((zmT 225).drop 320).take 40).all (zrc 225) = true := by decide +kernel
theorem zlw_9 : (((zmT 225).drop 360).take 40).all (zrc 225) = true := by decide +kernel
theorem zlw_10 : (((zmT 225).drop 400).take 40).all (zrc 225) = true := by decide +kernel
theorem zlw_11 : (((zmT 225).drop 440).take 40).all (zrc 225) = true := by decide +kernel
theorem zlw_12 : (((zmT 225).drop 480).take 40).all (zrc 225) = true := by decide +kernel
theorem zlw_13 : (((zmT 225).drop 520).take 40).all (zrc 225) = true := by decide +kernel
theorem zlw_14 : (((zmT 225).drop 560).take 40).all (zrc 225) = true := by decide +kernel
theorem zlw_15 : (((zmT 225).drop 600).take 40).all (zrc 225) = true := by decide +kernel
theorem zlw_16 : (((zmT 225).drop 640).take 40).all (zrc 225) = true := by decide +kernel
theorem zlw_17 : (((zmT 225).drop 680).take 40).all (zrc 225) = true := by decide +kernel
theorem zlw_18 : (((zmT 225).drop 720).take 40).all (zrc 225) = true := by decide +kernel
theorem zlw_19 : (((zmT 225).drop 760).take 40).all (zrc 225) = true := by decide +kernel
theorem zlw_20 : (((zmT 225).drop 800).take 40).all (zrc 225) = true := by decide +kernel
theorem zlw_21 : (((zmT 225).drop 840).take 40).all (zrc 225) = true := by decide +kernel
theorem zlw_22 : (((zmT 225).drop 880).take 40).all (zrc 225) = true := by decide +kernel
theorem zlw_23 : (((zmT 225).drop 920).take 40).all (zrc 225) = true := by decide +kernel
theorem zck_225 : zchk 225 = true := by
  have e24 := zall_nil (zrc 225) 960 (zmT 225) zlw_len
  have e23 : ((zmT 225).drop 920).all (zrc 225) = true := zall_cut _ 40 _ zlw_23 (by rw [List.drop_drop]; exact e24)
  have e22 : ((zmT 225).drop 880).all (zrc 225) = true := zall_cut _ 40 _ zlw_22 (by rw [List.drop_drop]; exact e23)
  have e21 : ((zmT 225).drop 840).all (zrc 225) = true := zall_cut _ 40 _ zlw_21 (by rw [List.drop_drop]; exact e22)
  have e20 : ((zmT 225).drop 800).all (zrc 225) = true := zall_cut _ 40 _ zlw_20 (by rw [List.drop_drop]; exact e21)
  have e19 : ((zmT 225).drop 760).all (zrc 225) = true := zall_cut _ 40 _ zlw_19 (by rw [List.drop_drop]; exact e20)
  have e18 : ((zmT 225).drop 720).all (zrc 225) = true := zall_cut _ 40 _ zlw_18 (by rw [List.drop_drop]; exact e19)
  have e17 : ((zmT 225).drop 680).all (zrc 225) = true := zall_cut _ 40 _ zlw_17 (by rw [List.drop_drop]; exact e18)
  have e16 : ((zmT 225).drop 640).all (zrc 225) = true := zall_cut _ 40 _ zlw_16 (by rw [List.drop_drop]; exact e17)
  have e15 : ((zmT 225).drop 600).all (zrc 225) = true := zall_cut _ 40 _ zlw_15 (by rw [List.drop_drop]; exact e16)
  have e14 : ((zmT 225).drop 560).all (zrc 225) = true := zall_cut _ 40 _ zlw_14 (by rw [List.drop_drop]; exact e15)
  have e13 : ((zmT 225).drop 520).all (zrc 225) = true := zall_cut _ 40 _ zlw_13 (by rw [List.drop_drop]; exact e14)
  have e12 : ((zmT 225).drop 480).all (zrc 225) = true := zall_cut _ 40 _ zlw_12 (by rw [List.drop_drop]; exact e13)
  have e11 : ((zmT 225).drop 440).all (zrc 225) = true := zall_cut _ 40 _ zlw_11 (by rw [List.drop_drop]; exact e12)
  have e10 : ((zmT 225).drop 400).all (zrc 225) = true := zall_cut _ 40 _ zlw_10 (by rw [List.drop_drop]; exact e11)
  have e9 : ((zmT 225).drop 360).all (zrc 225) = true := zall_cut _ 40 _ zlw_9 (by rw [List.drop_drop]; exact e10)
  have e8 : ((zmT 225).drop 320).all (zrc 225) = true := zall_cut _ 40 _ zlw_8 (by rw [List.drop_drop]; exact e9)
  have e7 : ((zmT 225).drop 280).all (zrc 225) = true := zall_cut _ 40 _ zlw_7 (by rw [List.drop_drop]; exact e8)
  have e6 : ((zmT 225).drop 240).all (zrc 225) = true := zall_cut _ 40 _ zlw_6 (by rw [List.drop_drop]; exact e7)
  have e5 : ((zmT 225).drop 200).all (zrc 225) = true := zall_cut _ 40 _ zlw_5 (by rw [List.drop_drop]; exact e6)
  have e4 : ((zmT 225).drop 160).all (zrc 225) = true := zall_cut _ 40 _ zlw_4 (by rw [List.drop_drop]; exact e5)
  have e3 : ((zmT 225).drop 120).all (zrc 225) = true := zall_cut _ 40 _ zlw_3 (by rw [List.drop_drop]; exact e4)
  have e2 : ((zmT 225).drop 80).all (zrc 225) = true := zall_cut _ 40 _ zlw_2 (by rw [List.drop_drop]; exact e3)
  have e1 : ((zmT 225).drop 40).all (zrc 225) = true := zall_cut _ 40 _ zlw_1 (by rw [List.drop_drop]; exact e2)
  have e0 : ((zmT 225).drop 0).all (zrc 225) = true := zall_cut _ 40 _ zlw_0 (by rw [List.drop_drop]; exact e1)
  unfold zchk
  rw [show (zmT 225).all (zrc 225) = true from e0, zlw_adj]
  rfl
