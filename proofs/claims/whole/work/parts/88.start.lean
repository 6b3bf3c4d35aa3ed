/-! the making of DishLift; the law from its first row -/
def d1K (lk : zLk) : zLk := va_up (rwK (zclk 120 lk)) 100 (some 120)
def d1L : List Nat := rwL ([100] ++ [120])
def d2K (lk : zLk) : zLk := va_up (va_up (zclk 540 (zclk 530 (d1K lk))) 530 (some 540)) 101 (some 530)
def d2L : List Nat := d1L ++ [530] ++ [540]
def d3K (lk : zLk) : zLk := va_up (zhK 10000 (zclk 10000 (d2K lk))) 102 (some 10000)
def d3L : List Nat := zhL 10000 (d2L ++ [10000])
def d4K (lk : zLk) : zLk := va_up (zhK 10064 (zclk 10064 (d3K lk))) 103 (some 10064)
def d4L : List Nat := zhL 10064 (d3L ++ [10064])
def d5K (lk : zLk) : zLk := va_up (va_up (zclk 670 (zclk 660 (d4K lk))) 660 (some 670)) 104 (some 660)
def d5L : List Nat := d4L ++ [660] ++ [670]
def d6K (lk : zLk) : zLk := va_up (zclk 700 (d5K lk)) 105 (some 700)
def d6L : List Nat := d5L ++ [700]
def d7K (lk : zLk) : zLk := va_up (foK (zclk 710 (d6K lk))) 106 (some 710)
def d7L : List Nat := foL (d6L ++ [710])
def d8K (lk : zLk) : zLk := va_up (orK (zclk 740 (d7K lk))) 107 (some 740)
def d8L : List Nat := orL (d7L ++ [740])
def d9K (lk : zLk) : zLk := va_up (va_up (zclk 780 (zclk 770 (d8K lk))) 770 (some 780)) 108 (some 770)
def d9L : List Nat := d8L ++ [770] ++ [780]
section DI
variable {X d : Nat} {mem mem0 : zMem} {lk : zLk} {Q : Option Value → zMem → Prop}
theorem d2_lt : ∀ x, x ∈ d2L ++ [10000] → x ≤ 10000 := by decide +kernel
theorem d3_lt : ∀ x, x ∈ d3L ++ [10064] → x ≤ 10064 := by decide +kernel
theorem d6_lt : ∀ x, x ∈ d6L ++ [710] → x < 10128 := by decide +kernel
theorem d7_lt : ∀ x, x ∈ d7L ++ [740] → x < 10192 := by decide +kernel
theorem ok_dlInit (hd : 2 < d) (hF : zF1 mem0 mem [100]) (q : ∀ mem', zF1 mem0 mem' d9L → Q none mem') : zOk X d 90 [.ref 100] mem lk [100] (d9K lk) d9L Q := by
  refine zOk_go 80 (tbl := tX7_init) rfl zck_90 rfl (by omega) (by decide +kernel) (by exact Nat.le_of_ble_eq_true rfl) (hf := by rfl) (h := ?_)
  refine ⟨120, rfl, by decide, by decide +kernel, rwK (zclk 120 lk), d1L, by decide +kernel, by decide +kernel, ?_⟩
  refine ok_rowsInit (mem0 := mem0) (by omega) (by decide) (hF.clr (by decide) (by decide)) (fun m1 F1 => ?_)
  have F1 : zF1 mem0 m1 d1L := F1
  refine ⟨rfl, by decide, 530, rfl, (by decide +kernel : 530 ∉ d1L), by decide +kernel, va_up (zclk 540 (zclk 530 (d1K lk))) 530 (some 540), d2L, by decide +kernel, by decide +kernel, ?_⟩
  refine ok_tapeInit (by omega) (by decide +kernel : 540 ∉ d1L ++ [530]) ?_
  have F2 : zF1 mem0 (zclr 540 (zclr 530 m1)) d2L := (F1.clr (by decide) (by decide)).clr (by decide) (by decide)
  generalize zclr 540 (zclr 530 m1) = m2 at F2 ⊢
  refine ⟨rfl, by decide, 10000, rfl, (by decide +kernel : 10000 ∉ d2L), by decide +kernel, zhK 10000 (zclk 10000 (d2K lk)), d3L, by decide +kernel, by decide +kernel, ?_⟩
  refine ok_newHouse 0 (by omega) (fun j hj hz h => by have := d2_lt _ h; omega) ?_
  have F3 : zF1 mem0 (zhM (10000 + 64 * 0) (zclr 10000 m2)) d3L := (F2.clr (by decide) (by decide)).hm (by omega)
  generalize zhM (10000 + 64 * 0) (zclr 10000 m2) = m3 at F3 ⊢
  refine ⟨rfl, by decide, 10064, rfl, (by decide +kernel : 10064 ∉ d3L), by decide +kernel, zhK 10064 (zclk 10064 (d3K lk)), d4L, by decide +kernel, by decide +kernel, ?_⟩
  refine ok_newHouse 1 (by omega) (fun j hj hz h => by have := d3_lt _ h; omega) ?_
  have F4 : zF1 mem0 (zhM (10000 + 64 * 1) (zclr 10064 m3)) d4L := (F3.clr (by decide) (by decide)).hm (by omega)
  generalize zhM (10000 + 64 * 1) (zclr 10064 m3) = m4 at F4 ⊢
  refine ⟨rfl, by decide, 660, rfl, (by decide +kernel : 660 ∉ d4L), by decide +kernel, va_up (zclk 670 (zclk 660 (d4K lk))) 660 (some 670), d5L, by decide +kernel, by decide +kernel, ?_⟩
  refine ok_actsInit (by omega) (by decide +kernel : 670 ∉ d4L ++ [660]) ?_
  have F5 : zF1 mem0 (zclr 670 (zclr 660 m4)) d5L := (F4.clr (by decide) (by decide)).clr (by decide) (by decide)
  generalize zclr 670 (zclr 660 m4) = m5 at F5 ⊢
  have F6 : zF1 mem0 (zclr 700 m5) d6L := F5.clr (by decide) (by decide)
  refine ⟨rfl, by decide, 700, rfl, rfl, (by decide +kernel : 700 ∉ d5L), by decide +kernel, rfl, by decide, 710, rfl, (by decide +kernel : 710 ∉ d6L), by decide +kernel, foK (zclk 710 (d6K lk)), d7L, by decide +kernel, by decide +kernel, ?_⟩
  generalize zclr 700 m5 = m6 at F6 ⊢
  refine ok_foInit (by omega) (fun j hj h => by have := d6_lt _ h; omega) (by decide +kernel : 720 ∉ d6L ++ [710]) ?_
  have F7 : zF1 mem0 (foM (zclr 710 m6)) d7L := (((F6.clr (by decide) (by decide)).clr (by decide) (by decide)).hm (by omega)).clr (by decide) (by decide)
  generalize foM (zclr 710 m6) = m7 at F7 ⊢
  refine ⟨rfl, by decide, 740, rfl, (by decide +kernel : 740 ∉ d7L), by decide +kernel, orK (zclk 740 (d7K lk)), d8L, by decide +kernel, by decide +kernel, ?_⟩
  refine ok_orInit (by omega) (fun j hj h => by have := d7_lt _ h; omega) (fun j hj h => by have := d7_lt _ h; omega) (by decide +kernel : 750 ∉ d7L ++ [740]) (by decide +kernel : 760 ∉ d7L ++ [740]) ?_
  have F8 : zF1 mem0 (orM (zclr 740 m7)) d8L := ((((((F7.clr (by decide) (by decide)).clr (by decide) (by decide)).hm (by omega)).clr (by decide) (by decide)).hm (by omega)).clr (by decide) (by decide)).clr (by decide) (by decide)
  generalize orM (zclr 740 m7) = m8 at F8 ⊢
  refine ⟨rfl, by decide, 770, rfl, (by decide +kernel : 770 ∉ d8L), by decide +kernel, va_up (zclk 780 (zclk 770 (d8K lk))) 770 (some 780), d9L, by decide +kernel, by decide +kernel, ?_⟩
  refine ok_asksInit (by omega) (by decide +kernel : 780 ∉ d8L ++ [770]) ?_
  have F9 : zF1 mem0 (zclr 780 (zclr 770 m8)) d9L := (F8.clr (by decide) (by decide)).clr (by decide) (by decide)
  generalize zclr 780 (zclr 770 m8) = m9 at F9 ⊢
  exact ⟨rfl, by decide, rfl, rfl, rfl, q _ (F9.up0 (by decide +kernel) (by decide +kernel) (by decide +kernel))⟩
end DI
def lwK : zLk := mdK (zclk 1000 (d9K (zclk 100 (fun _ => none))))
def lwL : List Nat := mdL (d9L ++ [1000])
theorem lw_ks : (∀ p, p ∈ zKl → lwK p.1 = some p.2) ∧ ∀ k, k < 8 → lwK (150 + k) = some (200 + 40 * k) := by decide +kernel
theorem lw_ho : ∀ i, i < 5 → ∀ j, j < 5 → lwK (10000 + 64 * i + (40 + j)) = some (10000 + 64 * i + (7 + 6 * j)) := by decide +kernel
theorem lw_ml : zML lwK := by unfold zML; decide +kernel
theorem lw_no : (∀ i, i < 24 → lwK (670 + i) = none) ∧ (∀ i, i < 2 → lwK (700 + i) = none) ∧ ∀ i, i < 9 → lwK (720 + i) = none := by decide +kernel
theorem lw_lt : ∀ x, x ∈ lwL → x < 10320 := by decide +kernel
theorem lw_pot : zpot lwK lwL ≤ 400 := by decide +kernel
theorem lw_l9 : ∀ x, x ∈ d9L ++ [1000] → x < 2000 ∨ 4000 ≤ x := by decide +kernel
/-- a clean word -/
def zcl (x : Nat) : Bool := lwL.contains (mo x) && !(Nat.beq (mo x) 130) && !(Nat.beq (mo x) 3420)
theorem zcl_ok {mem0 mem : zMem} (h : zF1 mem0 mem lwL) {x : Nat} (hx : zcl x = true) : mem x = nI 0 := by
  unfold zcl at hx
  simp only [Bool.and_eq_true, Bool.not_eq_true', List.contains_iff_mem] at hx
  have e : ∀ n : Nat, Nat.beq (mo x) n = false → mo x ≠ n := fun n hn q => by rw [q, show Nat.beq n n = true from by rw [Nat.beq_eq]] at hn; cases hn
  exact h.1.1 x hx.1.1 (e _ hx.1.2) (e _ hx.2)
theorem lw_c1 : ∀ i, i < 320 → zcl (200 + i) = true ∧ zcl (3440 + i) = true := by decide +kernel
theorem lw_c2 : ∀ i, i < 7 → zcl (10000 + i) = true ∧ zcl (2000 + i) = true := by decide +kernel
theorem lw_c3 : ∀ i, i < 6 → zcl (750 + i) = true := by decide +kernel
theorem lw_c4 : ∀ i, i < 2 → zcl (3870 + i) = true := by decide +kernel
theorem lw_c5 : zcl 531 = true ∧ zcl 533 = true ∧ zcl 1004 = true ∧ zcl 109 = true ∧ zcl 1005 = true ∧ zcl 661 = true ∧ zcl 662 = true ∧ zcl 744 = true ∧ zcl 771 = true ∧ zcl 1018 = true ∧ zcl 1003 = true ∧ zcl 1001 = true := by decide +kernel
theorem lw_s1 : ∀ i, i < 40 → mo (4000 + i) ∉ lwL := by decide +kernel
theorem lw_s2 : 5000 ∉ lwL ∧ 130 ∈ lwL ∧ 3420 ∈ lwL := by decide +kernel
def zS0 : zSg := (0, 0, fun _ => 0, fun _ _ => 0, fun _ => none, fun _ => 0, 0)
theorem lw_J {X : Nat} {xs : Nat → Int32} {mem0 mem : zMem} (hX : X ≤ 3072) (hF : zF1 mem0 mem lwL) (hs : zSt mem0) (hx : ∀ i, i < X → mem0 (5000 + i) = xs i) : zJ X xs zS0 lwK lwL mem := by
  have z := fun {x : Nat} (hx : zcl x = true) => zcl_ok hF hx
  obtain ⟨c1, c2, c3, c4, c5, c6, c7, c8, c9, c10, c11, c12⟩ := lw_c5
  show zInv X xs 0 0 (fun _ => 0) (fun _ _ => 0) (fun _ => none) (fun _ => 0) 0 mem lwK lwL
  have hHo : ∀ i, i < 5 → zHo lwK (10000 + 64 * i) := fun i hi => ⟨⟨i, rfl⟩, fun j hj => lw_ho i hi j hj⟩
  refine ⟨⟨Or.inr (fun _ _ => rfl), fun k hk => absurd hk (Nat.not_lt_zero _), by omega, fun i hi => absurd hi (Nat.not_lt_zero _)⟩, ⟨lw_ks, hHo, ⟨fun k hk => z (lw_c2 k hk).1, fun f e _ he => absurd he (Nat.not_lt_zero _)⟩, ?_, ?_, ?_, z c1, fun i hi => absurd hi (Nat.not_lt_zero _)⟩, ⟨lw_ml, ⟨⟨fun k hk => z (lw_c2 k hk).2, fun f e _ he => absurd he (Nat.not_lt_zero _)⟩, fun e he => absurd he (Nat.not_lt_zero _)⟩, ⟨by omega, z c12, fun k hk => absurd hk (Nat.not_lt_zero _)⟩, fun k hk => ⟨fun _ => z (lw_c4 k hk), fun gk hg => by cases hg⟩, z c11, fun i hi => absurd hi (Nat.not_lt_zero _)⟩, ?_, ?_, ?_, ?_⟩
  · exact ⟨by omega, by omega, z c6, z c7, lw_ks.1 (660, 670) (by decide), fun s hs => Or.inl (lw_no.1 s hs), fun s hs _ j hj h => by have := lw_lt _ h; unfold zAH at this; omega, fun k hk => absurd hk (Nat.not_lt_zero _)⟩
  · exact fun k hk => ⟨fun _ => ⟨lw_no.2.1 k hk, fun j hj h => by have := lw_lt _ h; unfold zIH at this; omega⟩, fun gk hg => by cases hg⟩
  · exact fun j hj => Or.inl ⟨lw_no.2.2 j hj, fun i hi h => by have := lw_lt _ h; unfold zLH at this; omega⟩
  · refine ⟨⟨fun _ => 99, fun _ => 0, fun _ => nI 0, ⟨fun k hk => ⟨fun _ => hF.2.1 lw_s2.2.1 k hk, fun q => absurd rfl q⟩, fun i hi => z (lw_c1 i hi).1⟩, ⟨fun k hk => ⟨fun _ => hF.2.2 lw_s2.2.2 k hk, fun q => absurd rfl q⟩, fun i hi => z (lw_c1 i hi).2⟩, fun k hk q => absurd rfl q⟩, (z c4).trans (z c5).symm, (z c2).trans (z c3).symm, [], ⟨z c9, fun i _ h => absurd h (Nat.not_lt_zero _)⟩, ⟨z c10, fun i _ h => absurd h (Nat.not_lt_zero _)⟩⟩
  · exact ⟨⟨fun _ => 0, fun k hk => ⟨z (lw_c3 k hk), show 0 < 6 by decide⟩⟩, 0, z c8, by omega, Or.inl rfl⟩
  · refine hs.sm (fun x h1 h2 => hF.1.2 x ?_)
    have := lw_s1 (x - 4000) (by omega)
    rw [show 4000 + (x - 4000) = x by omega] at this
    exact this
  · intro i hi
    rw [hF.1.2 _ (by rw [mo_has (X := 3072) (o := 5000) (j := i) (by omega) (Or.inr ⟨by decide, by decide, by show i < 3072; omega⟩)]; exact lw_s2.1)]
    exact hx i hi
theorem law_start {X d : Nat} {xs : Nat → Int32} (hX : X ≤ 3072) (hd : 50 < d) : ∃ lkf Lf, Lf.length ≤ 400 ∧ ∀ mem0 Q, zSt mem0 → (∀ i, i < X → mem0 (5000 + i) = xs i) → (∀ mem', Q (some (.int (nI 1))) mem') → zE X d 225 0 [.ref 5000, zU, zU, zU] [] mem0 (fun _ => none) [] lkf Lf Q := by
  obtain ⟨lkf, Lf, h1, h2, G⟩ := law_loop (X := X) (d := d) (xs := xs) hX hd 520 0 zS0 lwK lwL (by omega) (by omega)
  have hl : Lf.length ≤ 400 := Nat.le_trans (Nat.le_add_right _ _) (Nat.le_trans h2 lw_pot)
  have e1 : lwL.length = 67 := by decide +kernel
  have e9 : d9L.length = 55 := by decide +kernel
  refine ⟨lkf, Lf, hl, fun mem0 Q hs hx q => ?_⟩
  have F0 : zF1 mem0 mem0 [] := ⟨⟨fun x h => (by cases h), fun x _ => rfl⟩, fun h => (by cases h), fun h => (by cases h)⟩
  refine zgoc [] 40 0 (tbl := tL_law) zck_225 rfl (h := ?_)
  refine ⟨100, rfl, by decide, by show 0 + 1 ≤ _; omega, d9K (zclk 100 (fun _ => none)), d9L, by omega, by rw [e9]; decide, ?_⟩
  refine ok_dlInit (mem0 := mem0) (by omega) (F0.clr (by decide) (by decide)) (fun m1 F1 => ?_)
  refine ⟨1000, rfl, (by decide +kernel : 1000 ∉ d9L), by omega, lwK, lwL, h1, by rw [e1, zlen1, e9]; omega, ?_⟩
  refine ok_mdInit (mem0 := mem0) (by omega) lw_l9 (F1.clr (by decide) (by decide)) (fun m2 F2 => ?_)
  exact G m2 Q (lw_J hX F2 hs hx) q
