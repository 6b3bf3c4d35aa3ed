/-! the makings of Rows, Foretold, Orders, Model -/
theorem zni {L : List Nat} {o a : Nat} (h : o ∉ L) (hne : o ≠ a) : o ∉ L ++ [a] := fun q => by
  rcases List.mem_append.mp q with q | q
  · exact h q
  · exact hne (List.mem_singleton.mp q)
theorem zlen1 {L : List Nat} {a : Nat} : (L ++ [a]).length = L.length + 1 := by rw [List.length_append]; rfl
theorem zFsh.m8 {mem0 mem : zMem} {L : List Nat} (h : zFsh mem0 mem L) : ∀ n, zFsh mem0 (z8m n mem) (z8L n L)
  | 0 => h
  | n + 1 => (h.m8 n).clr
/-- all that was made is as it was made, and the lanes are empty -/
def zF1 (mem0 mem : zMem) (L : List Nat) : Prop := zFsh mem0 mem L ∧ (130 ∈ L → ∀ i, i < 8 → mem (130 + i) = -(nI 1)) ∧ (3420 ∈ L → ∀ i, i < 8 → mem (3420 + i) = -(nI 1))
theorem mo130 (j : Nat) (h : j < 8) : mo (130 + j) = 130 := mo_has (X := 0) (by omega) (Or.inr ⟨by decide, by decide, h⟩)
theorem mo3420 (j : Nat) (h : j < 8) : mo (3420 + j) = 3420 := mo_has (X := 0) (by omega) (Or.inr ⟨by decide, by decide, h⟩)
theorem zF1.clr {mem0 mem : zMem} {L : List Nat} {o : Nat} (h : zF1 mem0 mem L) (h1 : o ≠ 130) (h2 : o ≠ 3420) : zF1 mem0 (zclr o mem) (L ++ [o]) := by
  refine ⟨h.1.clr, fun q i hi => ?_, fun q i hi => ?_⟩
  · rw [show zclr o mem (130 + i) = mem (130 + i) from if_neg (by rw [mo130 i hi]; exact fun e => h1 e.symm)]
    refine h.2.1 ?_ i hi
    rcases List.mem_append.mp q with q | q
    · exact q
    · exact absurd (List.mem_singleton.mp q).symm h1
  · rw [show zclr o mem (3420 + i) = mem (3420 + i) from if_neg (by rw [mo3420 i hi]; exact fun e => h2 e.symm)]
    refine h.2.2 ?_ i hi
    rcases List.mem_append.mp q with q | q
    · exact q
    · exact absurd (List.mem_singleton.mp q).symm h2
theorem zF1.hm {mem0 mem : zMem} {L : List Nat} {h : Nat} (hF : zF1 mem0 mem L) (hh : 4000 ≤ h) : zF1 mem0 (zhM h mem) (zhL h L) := ((((hF.clr (by omega) (by omega)).clr (by omega) (by omega)).clr (by omega) (by omega)).clr (by omega) (by omega)).clr (by omega) (by omega)
theorem zF1.up0 {mem0 mem : zMem} {L : List Nat} {x : Nat} (hF : zF1 mem0 mem L) (hx : mo x ∈ L) (h1 : mo x ≠ 130) (h2 : mo x ≠ 3420) : zF1 mem0 (upd mem x 0) L := by
  have e : upd mem x 0 = mem := by
    funext z
    by_cases q : z = x
    · rw [q, upd_eq, hF.1.1 x hx h1 h2]
    · rw [upd_ne q]
  rw [e]; exact hF
def zF0 (mem0 mem : zMem) (L : List Nat) : Prop := zFsh mem0 mem L ∧ (130 ∈ L → ∀ i, i < 8 → mem (130 + i) = -(nI 1))
theorem zF0.clr {mem0 mem : zMem} {L : List Nat} {o : Nat} (h : zF0 mem0 mem L) (h1 : o ≠ 130) : zF0 mem0 (zclr o mem) (L ++ [o]) := by
  refine ⟨h.1.clr, fun q i hi => ?_⟩
  rw [show zclr o mem (130 + i) = mem (130 + i) from if_neg (by rw [mo130 i hi]; exact fun e => h1 e.symm)]
  refine h.2 ?_ i hi
  rcases List.mem_append.mp q with q | q
  · exact q
  · exact absurd (List.mem_singleton.mp q).symm h1
section IN2
variable {X d : Nat} {mem mem0 : zMem} {lk : zLk} {L : List Nat} {Q : Option Value → zMem → Prop}
def rwK (lk : zLk) : zLk := va_up (z9k (va_up (zclk 140 (va_up (zclk 130 lk) 120 (some 130))) 121 (some 140))) 122 (some 150)
def rwL (L : List Nat) : List Nat := z8L 8 (L ++ [130] ++ [140]) ++ [150]
def rwM (mem : zMem) : zMem := zclr 150 (z8m 8 (zclr 140 (zclr 130 mem)))
theorem rwL_len (L : List Nat) : (rwL L).length = L.length + 11 := by
  unfold rwL
  rw [zlen1, z8L_len, zlen1, zlen1]
theorem zw69 : Cond.classLink (zmO 69) 16 ("[" ++ (FieldType.array .int).toString) ∈ zgd := by decide +kernel
theorem ok_rowsInit (hd : 1 < d) (hL : ∀ x, x ∈ L → x < 130) (hF : zF1 mem0 mem L) (q : ∀ mem', zF1 mem0 mem' (rwL L) → Q none mem') : zOk X d 69 [.ref 120] mem lk L (rwK lk) (rwL L) Q := by
  have n130 : 130 ∉ L := fun h => by have := hL _ h; omega
  have n140 : 140 ∉ L ++ [130] := zni (fun h => by have := hL _ h; omega) (by omega)
  have n150 : 150 ∉ L ++ [130] ++ [140] := zni (zni (fun h => by have := hL _ h; omega) (by omega)) (by omega)
  have n200 : ∀ j, j < 8 → 200 + 40 * j ∉ L ++ [130] ++ [140] := fun j _ => zni (zni (fun h => by have := hL _ h; omega) (by omega)) (by omega)
  have n3420 : 3420 ∉ L := fun h => by have := hL _ h; omega
  have hl := rwL_len L
  refine zOk_goc [25] 40 (tbl := tX5_init) zck_69 rfl (by omega) (by omega) (h := ?_)
  refine ⟨130, rfl, rfl, n130, by omega, rfl, by decide, ?_⟩
  refine ⟨140, rfl, rfl, n140, by rw [zlen1]; omega, rfl, by decide, ?_⟩
  refine zE_multi (X := X) (idx := 16) (by decide +kernel) zw69 zoi.2.2.2.2.2.1 n150 n200 (by rw [zlen1, zlen1]; omega) ?_
  refine zgoc [] 40 29 (tbl := tX5_init) zck_69 rfl (h := ?_)
  refine ⟨rfl, by decide, rfl, 130, rfl, ?_⟩
  refine ok_fill (n := 8) (by omega) rfl rfl (by omega) (fun mem' h1 h2 => ⟨rfl, rfl, q mem' ?_⟩)
  have F2 : zFsh mem0 (zclr 150 (z8m 8 (zclr 140 (zclr 130 mem)))) (rwL L) := ((hF.1.clr.clr).m8 8).clr
  have hin : ∀ x, 130 ≤ x ∧ x < 138 → mo x = 130 := fun x hx => by
    have := mo130 (x - 130) (by omega)
    rw [show 130 + (x - 130) = x by omega] at this
    exact this
  have h130 : 130 ∈ rwL L := List.mem_append_left _ ((z8L_mem _ _ 8).mpr (Or.inl (List.mem_append_left _ (List.mem_append_right _ List.mem_cons_self))))
  refine ⟨⟨fun x hx z1 z2 => ?_, fun x hx => ?_⟩, fun _ => h1, fun z => ?_⟩
  · rw [h2 x (fun c => z1 (hin x c))]; exact F2.1 x hx z1 z2
  · rw [h2 x (fun c => hx (by rw [hin x c]; exact h130))]; exact F2.2 x hx
  · exfalso
    rcases List.mem_append.mp z with z | z
    · rcases (z8L_mem _ _ 8).mp z with z | ⟨j, hj, e⟩
      · exact zni (zni n3420 (by omega)) (by omega) z
      · omega
    · exact absurd (List.mem_singleton.mp z) (by omega)
def foK (lk : zLk) : zLk := va_up (zclk 720 (va_up (zhK 10128 (zclk 10128 lk)) 710 (some 10128))) 711 (some 720)
def foL (L : List Nat) : List Nat := zhL 10128 (L ++ [10128]) ++ [720]
def foM (mem : zMem) : zMem := zclr 720 (zhM 10128 (zclr 10128 mem))
theorem zhL_len (h : Nat) (L : List Nat) : (zhL h L).length = L.length + 5 := by unfold zhL; simp only [List.length_append, List.length_cons, List.length_nil]
theorem zhL_ni {h o : Nat} {L : List Nat} (h0 : o ∉ L) (h1 : o < h) : o ∉ zhL h L := zni (zni (zni (zni (zni h0 (by omega)) (by omega)) (by omega)) (by omega)) (by omega)
theorem zhL_nj {h o : Nat} {L : List Nat} (h0 : o ∉ L) (h1 : h + 64 ≤ o) : o ∉ zhL h L := zni (zni (zni (zni (zni h0 (by omega)) (by omega)) (by omega)) (by omega)) (by omega)
theorem ok_foInit (hd : 1 < d) (h1 : ∀ j, j < 64 → 10128 + j ∉ L) (h2 : 720 ∉ L) (q : Q none (foM mem)) : zOk X d 12 [.ref 710] mem lk L (foK lk) (foL L) Q := by
  have hl : (foL L).length = L.length + 7 := by unfold foL; rw [zlen1, zhL_len, zlen1]
  refine zOk_go 40 (tbl := tX2_init) rfl zck_12 rfl (by omega) (by omega) (by exact Nat.le_of_ble_eq_true rfl) (hf := by rfl) (h := ?_)
  refine ⟨10128, rfl, h1 0 (by omega), by omega, zhK 10128 (zclk 10128 lk), zhL 10128 (L ++ [10128]), by rw [zhL_len, zlen1]; omega, by rw [zhL_len]; omega, ?_⟩
  refine ok_newHouse 2 (by omega) (fun j hj hz => zni (h1 j hj) (by omega)) ?_
  exact ⟨rfl, by decide, 720, rfl, rfl, zhL_ni (zni h2 (by omega)) (by omega), by rw [zhL_len, zlen1]; omega, rfl, by decide, rfl, rfl, q⟩
def orK (lk : zLk) : zLk := va_up (zclk 760 (va_up (zclk 750 (va_up (zhK 10256 (zclk 10256 (va_up (zhK 10192 (zclk 10192 lk)) 740 (some 10192)))) 741 (some 10256))) 742 (some 750))) 743 (some 760)
def orL (L : List Nat) : List Nat := zhL 10256 (zhL 10192 (L ++ [10192]) ++ [10256]) ++ [750] ++ [760]
def orM (mem : zMem) : zMem := zclr 760 (zclr 750 (zhM 10256 (zclr 10256 (zhM 10192 (zclr 10192 mem)))))
theorem ok_orInit (hd : 1 < d) (h1 : ∀ j, j < 64 → 10192 + j ∉ L) (h2 : ∀ j, j < 64 → 10256 + j ∉ L) (h3 : 750 ∉ L) (h4 : 760 ∉ L) (q : Q none (orM mem)) : zOk X d 64 [.ref 740] mem lk L (orK lk) (orL L) Q := by
  have hl : (orL L).length = L.length + 14 := by unfold orL; rw [zlen1, zlen1, zhL_len, zlen1, zhL_len, zlen1]
  have l1 : (zhL 10192 (L ++ [10192])).length = L.length + 6 := by rw [zhL_len, zlen1]
  have l2 : (zhL 10256 (zhL 10192 (L ++ [10192]) ++ [10256])).length = L.length + 12 := by rw [zhL_len, zlen1, l1]
  have n1 : ∀ j, j < 64 → 10256 + j ∉ zhL 10192 (L ++ [10192]) := fun j hj => zhL_nj (zni (h2 j hj) (by omega)) (by omega)
  have n2 : ∀ o, o ∉ L → o < 10000 → o ∉ zhL 10256 (zhL 10192 (L ++ [10192]) ++ [10256]) := fun o ho hlt => zhL_ni (zni (zhL_ni (zni ho (by omega)) (by omega)) (by omega)) (by omega)
  refine zOk_go 60 (tbl := tX4_init) rfl zck_64 rfl (by omega) (by omega) (by exact Nat.le_of_ble_eq_true rfl) (hf := by rfl) (h := ?_)
  refine ⟨10192, rfl, h1 0 (by omega), by omega, zhK 10192 (zclk 10192 lk), zhL 10192 (L ++ [10192]), by omega, by rw [l1, zlen1]; omega, ?_⟩
  refine ok_newHouse 3 (by omega) (fun j hj hz => zni (h1 j hj) (by omega)) ?_
  refine ⟨rfl, by decide, 10256, rfl, n1 0 (by omega), by omega, zhK 10256 (zclk 10256 (va_up (zhK 10192 (zclk 10192 lk)) 740 (some 10192))), zhL 10256 (zhL 10192 (L ++ [10192]) ++ [10256]), by omega, by rw [l2, zlen1, l1]; omega, ?_⟩
  refine ok_newHouse 4 (by omega) (fun j hj hz => zni (n1 j hj) (by omega)) ?_
  refine ⟨rfl, by decide, 750, rfl, rfl, n2 750 h3 (by omega), by omega, rfl, by decide, 760, rfl, rfl, zni (n2 760 h4 (by omega)) (by omega), by rw [zlen1]; omega, rfl, by decide, rfl, rfl, q⟩
def mdK (lk : zLk) : zLk := va_up (zclk 3880 (va_up (zclk 3870 (va_up (zclk 3820 (va_up (zclk 3810 (va_up (zclk 3800 (va_up (zclk 3760 (va_up (zclk 3440 (va_up (zclk 3430 (va_up (zclk 3420 (va_up (zclk 3300 (va_up (zclk 2000 lk) 1000 (some 2000))) 1002 (some 3300))) 1006 (some 3420))) 1007 (some 3430))) 1008 (some 3440))) 1009 (some 3760))) 1013 (some 3800))) 1014 (some 3810))) 1015 (some 3820))) 1016 (some 3870))) 1017 (some 3880)
def mdL (L : List Nat) : List Nat := L ++ [2000] ++ [3300] ++ [3420] ++ [3430] ++ [3440] ++ [3760] ++ [3800] ++ [3810] ++ [3820] ++ [3870] ++ [3880]
def mdM (mem : zMem) : zMem := zclr 3880 (zclr 3870 (zclr 3820 (zclr 3810 (zclr 3800 (zclr 3760 (zclr 3440 (zclr 3430 (zclr 3420 (zclr 3300 (zclr 2000 mem))))))))))
theorem md_loop (hk : lk 1006 = some 3420) (q : ∀ mem', (∀ i, i < 8 → mem' (3420 + i) = -(nI 1)) → (∀ x, ¬ (3420 ≤ x ∧ x < 3428) → mem' x = mem x) → Q none mem') : ∀ m i m1, i + m = 8 → (∀ j, j < i → m1 (3420 + j) = -(nI 1)) → (∀ x, ¬ (3420 ≤ x ∧ x < 3428) → m1 x = mem x) → zE X d 131 95 [.ref 1000, .int (nI i)] [] m1 lk L lk L Q := by
  intro m
  induction m with
  | zero =>
    intro i m1 hi h1 h2
    have c1 : nI 8 ≤ nI i := by rw [nLe (by omega) (by omega)]; omega
    refine zE_do 40 95 (tbl := tX8_init) zck_131 rfl (h := ?_)
    exact ⟨fun _ => ⟨rfl, rfl, q m1 (fun j hj => h1 j (by omega)) h2⟩, fun c => absurd c1 c⟩
  | succ m ih =>
    intro i m1 hi h1 h2
    have c1 : ¬ nI 8 ≤ nI i := by rw [nLe (by omega) (by omega)]; omega
    refine zE_do 40 95 (tbl := tX8_init) zck_131 rfl (h := ?_)
    refine ⟨fun c => absurd c c1, fun _ => ⟨rfl, 3420, hk, rfl, in8 3420 rfl (show i < 8 by omega), ?_⟩⟩
    have e1 : (nI i).toNatClampNeg = i := nI_clamp (by omega)
    have k := ih (i + 1) (upd m1 (3420 + i) (-(nI 1))) (by omega) (fun j hj => by
      by_cases z : j = i
      · subst z; exact upd_eq
      · rw [upd_ne (by omega)]; exact h1 j (by omega)) (fun x hx => by rw [upd_ne (by omega)]; exact h2 x hx)
    rw [show nI (i + 1) = nI i + nI 1 from (nI_add i 1).symm] at k
    show zE X d 131 95 [.ref 1000, .int (nI i + nI 1)] [] (upd m1 (3420 + (nI i).toNatClampNeg) (-(nI 1))) lk L lk L Q
    rw [e1]
    exact k
theorem ok_mdInit (hd : 0 < d) (hL : ∀ x, x ∈ L → x < 2000 ∨ 4000 ≤ x) (hF : zF1 mem0 mem L) (q : ∀ mem', zF1 mem0 mem' (mdL L) → Q none mem') : zOk X d 131 [.ref 1000] mem lk L (mdK lk) (mdL L) Q := by
  have hl : (mdL L).length = L.length + 11 := by unfold mdL; rw [zlen1, zlen1, zlen1, zlen1, zlen1, zlen1, zlen1, zlen1, zlen1, zlen1, zlen1]
  have n : ∀ o, 2000 ≤ o → o < 4000 → o ∉ L := fun o a b c => by have := hL o c; omega
  refine zOk_go 80 (tbl := tX8_init) rfl zck_131 rfl hd (by omega) (by exact Nat.le_of_ble_eq_true rfl) (hf := by rfl) (h := ?_)
  refine ⟨2000, rfl, rfl, n _ (by omega) (by omega), by omega, rfl, by decide, ?_⟩
  refine ⟨3300, rfl, rfl, zni (n _ (by omega) (by omega)) (by omega), by simp only [zlen1]; omega, rfl, by decide, ?_⟩
  refine ⟨3420, rfl, rfl, zni (zni (n _ (by omega) (by omega)) (by omega)) (by omega), by simp only [zlen1]; omega, rfl, by decide, ?_⟩
  refine ⟨3430, rfl, rfl, zni (zni (zni (n _ (by omega) (by omega)) (by omega)) (by omega)) (by omega), by simp only [zlen1]; omega, rfl, by decide, ?_⟩
  refine ⟨3440, rfl, rfl, zni (zni (zni (zni (n _ (by omega) (by omega)) (by omega)) (by omega)) (by omega)) (by omega), by simp only [zlen1]; omega, rfl, by decide, ?_⟩
  refine ⟨3760, rfl, rfl, zni (zni (zni (zni (zni (n _ (by omega) (by omega)) (by omega)) (by omega)) (by omega)) (by omega)) (by omega), by simp only [zlen1]; omega, rfl, by decide, ?_⟩
  refine ⟨3800, rfl, rfl, zni (zni (zni (zni (zni (zni (n _ (by omega) (by omega)) (by omega)) (by omega)) (by omega)) (by omega)) (by omega)) (by omega), by simp only [zlen1]; omega, rfl, by decide, ?_⟩
  refine ⟨3810, rfl, rfl, zni (zni (zni (zni (zni (zni (zni (n _ (by omega) (by omega)) (by omega)) (by omega)) (by omega)) (by omega)) (by omega)) (by omega)) (by omega), by simp only [zlen1]; omega, rfl, by decide, ?_⟩
  refine ⟨3820, rfl, rfl, zni (zni (zni (zni (zni (zni (zni (zni (n _ (by omega) (by omega)) (by omega)) (by omega)) (by omega)) (by omega)) (by omega)) (by omega)) (by omega)) (by omega), by simp only [zlen1]; omega, rfl, by decide, ?_⟩
  refine ⟨3870, rfl, rfl, zni (zni (zni (zni (zni (zni (zni (zni (zni (n _ (by omega) (by omega)) (by omega)) (by omega)) (by omega)) (by omega)) (by omega)) (by omega)) (by omega)) (by omega)) (by omega), by simp only [zlen1]; omega, rfl, by decide, ?_⟩
  refine ⟨3880, rfl, rfl, zni (zni (zni (zni (zni (zni (zni (zni (zni (zni (n _ (by omega) (by omega)) (by omega)) (by omega)) (by omega)) (by omega)) (by omega)) (by omega)) (by omega)) (by omega)) (by omega)) (by omega), by simp only [zlen1]; omega, rfl, by decide, ?_⟩
  have F0 : zF0 mem0 mem L := ⟨hF.1, hF.2.1⟩
  have F : zF0 mem0 (mdM mem) (mdL L) := ((((((((((F0.clr (by omega)).clr (by omega)).clr (by omega)).clr (by omega)).clr (by omega)).clr (by omega)).clr (by omega)).clr (by omega)).clr (by omega)).clr (by omega)).clr (by omega)
  have hin : ∀ x, 3420 ≤ x ∧ x < 3428 → mo x = 3420 := fun x hx => by
    have := mo3420 (x - 3420) (by omega)
    rw [show 3420 + (x - 3420) = x by omega] at this
    exact this
  have hm : 3420 ∈ mdL L := by
    unfold mdL
    simp
  refine md_loop (mem := mdM mem) (lk := mdK lk) (L := mdL L) rfl (fun mem' h1 h2 => q mem' ?_) 8 0 (mdM mem) rfl (fun j hj => absurd hj (Nat.not_lt_zero _)) (fun _ _ => rfl)
  refine ⟨⟨fun x hx z1 z2 => ?_, fun x hx => ?_⟩, fun z i hi => ?_, fun _ => h1⟩
  · rw [h2 x (fun c => z2 (hin x c))]; exact F.1.1 x hx z1 z2
  · rw [h2 x (fun c => hx (by rw [hin x c]; exact hm))]; exact F.1.2 x hx
  · rw [h2 _ (by omega)]; exact F.2 z i hi
end IN2
