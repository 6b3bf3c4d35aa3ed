/-! a new house -/
theorem zmoS_le : ∀ (l : List (Nat × Nat × Nat)) (x : Nat), zmoS l x ≤ x
  | [], x => Nat.zero_le _
  | (i, k, n) :: l, x => by
    unfold zmoS
    cases h : (Nat.ble i x && Nat.blt x (i + n)) with
    | false => exact zmoS_le l x
    | true =>
      rw [Bool.and_eq_true] at h
      exact Nat.le_of_ble_eq_true h.1
theorem mo_lo {x : Nat} (h : x < 10000) : mo x < 10000 := by
  unfold mo
  have h1 : Nat.blt x 10000 = true := by rw [Nat.blt_eq]; exact h
  rw [h1, cond_true]
  exact Nat.lt_of_le_of_lt (zmoS_le _ _) h
theorem mo_hi {x : Nat} (h : 10000 ≤ x) : x - (x - 10000) % 64 ≤ mo x ∧ mo x < x - (x - 10000) % 64 + 64 := by
  unfold mo
  have h1 : Nat.blt x 10000 = false := by rw [Bool.eq_false_iff, ne_eq, Nat.blt_eq]; omega
  rw [h1, cond_false]
  cases hc : (Nat.blt ((x - 10000) % 64) 7 || Nat.ble 37 ((x - 10000) % 64)) with
  | true => rw [cond_true]; omega
  | false =>
    rw [Bool.or_eq_false_iff] at hc
    have c2 : ¬ 37 ≤ (x - 10000) % 64 := fun q => by rw [Nat.ble_eq_true_of_le q] at hc; exact absurd hc.2 (by decide)
    rw [cond_false]
    omega
theorem mo_blk {x o i : Nat} (h : mo x = o) (h1 : 10000 + 64 * i ≤ o) (h2 : o < 10000 + 64 * i + 64) : 10000 + 64 * i ≤ x ∧ x < 10000 + 64 * i + 64 := by
  rcases Nat.lt_or_ge x 10000 with c | c
  · have := mo_lo c; omega
  · have := mo_hi c; omega
/-- nothing outside the place of a house has changed -/
def zfb (mem mem' : zMem) (b : Nat) : Prop := ∀ x, ¬ (b ≤ x ∧ x < b + 64) → mem' x = mem x
def zlb (lk lk' : zLk) (b : Nat) : Prop := ∀ x, ¬ (b ≤ x ∧ x < b + 64) → lk' x = lk x
theorem zfb.rf {mem : zMem} {b : Nat} : zfb mem mem b := fun _ _ => rfl
theorem zlb.rf {lk : zLk} {b : Nat} : zlb lk lk b := fun _ _ => rfl
theorem zfb.tr {m1 m2 m3 : zMem} {b : Nat} (h : zfb m1 m2 b) (h' : zfb m2 m3 b) : zfb m1 m3 b := fun x hx => (h' x hx).trans (h x hx)
theorem zlb.tr {m1 m2 m3 : zLk} {b : Nat} (h : zlb m1 m2 b) (h' : zlb m2 m3 b) : zlb m1 m3 b := fun x hx => (h' x hx).trans (h x hx)
theorem zfb.clr {mem : zMem} {i o : Nat} (h1 : 10000 + 64 * i ≤ o) (h2 : o < 10000 + 64 * i + 64) : zfb mem (zclr o mem) (10000 + 64 * i) := fun x hx => if_neg fun q => hx (mo_blk q h1 h2)
theorem zlb.clr {lk : zLk} {i o : Nat} (h1 : 10000 + 64 * i ≤ o) (h2 : o < 10000 + 64 * i + 64) : zlb lk (zclk o lk) (10000 + 64 * i) := fun x hx => if_neg fun q => hx (mo_blk q h1 h2)
theorem zlb.up {lk : zLk} {b x : Nat} {v : Option Nat} (h1 : b ≤ x) (h2 : x < b + 64) : zlb lk (va_up lk x v) b := fun z hz => zup_ne (by omega)
theorem zfr.fb {mem mem' : zMem} {b : Nat} (h : zfr mem mem' b) : zfb mem mem' b := fun x hx => h x (by omega)
def zhM (h : Nat) (mem : zMem) : zMem := zclr (h + 31) (zclr (h + 25) (zclr (h + 19) (zclr (h + 13) (zclr (h + 7) mem))))
def zhK (h : Nat) (lk : zLk) : zLk := va_up (zclk (h + 31) (va_up (zclk (h + 25) (va_up (zclk (h + 19) (va_up (zclk (h + 13) (va_up (zclk (h + 7) lk) (h + 40) (some (h + 7)))) (h + 41) (some (h + 13)))) (h + 42) (some (h + 19)))) (h + 43) (some (h + 25)))) (h + 44) (some (h + 31))
def zhL (h : Nat) (L : List Nat) : List Nat := L ++ [h + 7] ++ [h + 13] ++ [h + 19] ++ [h + 25] ++ [h + 31]
theorem zhM_fb (i : Nat) (mem : zMem) : zfb mem (zhM (10000 + 64 * i) mem) (10000 + 64 * i) :=
  ((((zfb.clr (by omega) (by omega)).tr (zfb.clr (by omega) (by omega))).tr (zfb.clr (by omega) (by omega))).tr (zfb.clr (by omega) (by omega))).tr (zfb.clr (by omega) (by omega))
theorem zhK_lb (i : Nat) (lk : zLk) : zlb lk (zhK (10000 + 64 * i) lk) (10000 + 64 * i) :=
  (((((((((zlb.clr (by omega) (by omega)).tr (zlb.up (by omega) (by omega))).tr (zlb.clr (by omega) (by omega))).tr (zlb.up (by omega) (by omega))).tr (zlb.clr (by omega) (by omega))).tr (zlb.up (by omega) (by omega))).tr (zlb.clr (by omega) (by omega))).tr (zlb.up (by omega) (by omega))).tr (zlb.clr (by omega) (by omega))).tr (zlb.up (by omega) (by omega))
theorem mo_hf {i j : Nat} (hj : j < 7 ∨ 37 ≤ j ∧ j < 64) : mo (10000 + 64 * i + j) = 10000 + 64 * i := by
  unfold mo
  have h1 : Nat.blt (10000 + 64 * i + j) 10000 = false := by rw [Bool.eq_false_iff, ne_eq, Nat.blt_eq]; omega
  have h2 : (10000 + 64 * i + j - 10000) % 64 = j := by omega
  have h3 : (Nat.blt j 7 || Nat.ble 37 j) = true := by
    rw [Bool.or_eq_true, Nat.blt_eq]
    exact hj.elim Or.inl (fun q => Or.inr (Nat.ble_eq_true_of_le q.1))
  rw [h1, h2, h3, cond_false, cond_true]
  omega
theorem zclk_hf {i j o : Nat} {lk : zLk} (hj : j < 7 ∨ 37 ≤ j ∧ j < 64) (ho : o ≠ 10000 + 64 * i) : zclk o lk (10000 + 64 * i + j) = lk (10000 + 64 * i + j) := if_neg (by rw [mo_hf hj]; omega)
theorem zclr_hf {i j o : Nat} {mem : zMem} (hj : j < 7 ∨ 37 ≤ j ∧ j < 64) (ho : o ≠ 10000 + 64 * i) : zclr o mem (10000 + 64 * i + j) = mem (10000 + 64 * i + j) := if_neg (by rw [mo_hf hj]; omega)
theorem zhK_ho (i : Nat) (lk : zLk) : zHo (zhK (10000 + 64 * i) lk) (10000 + 64 * i) := by
  refine ⟨⟨i, rfl⟩, fun j hj => ?_⟩
  unfold zhK
  rcases (by omega : j = 0 ∨ j = 1 ∨ j = 2 ∨ j = 3 ∨ j = 4) with y | y | y | y | y <;> subst y
  · rw [zup_ne (by omega), zclk_hf (by omega) (by omega), zup_ne (by omega), zclk_hf (by omega) (by omega), zup_ne (by omega), zclk_hf (by omega) (by omega), zup_ne (by omega), zclk_hf (by omega) (by omega)]; exact zup_eq
  · rw [zup_ne (by omega), zclk_hf (by omega) (by omega), zup_ne (by omega), zclk_hf (by omega) (by omega), zup_ne (by omega), zclk_hf (by omega) (by omega)]; exact zup_eq
  · rw [zup_ne (by omega), zclk_hf (by omega) (by omega), zup_ne (by omega), zclk_hf (by omega) (by omega)]; exact zup_eq
  · rw [zup_ne (by omega), zclk_hf (by omega) (by omega)]; exact zup_eq
  · exact zup_eq
theorem zhM_0 (i : Nat) (mem : zMem) : zHB (zhM (10000 + 64 * i) (zclr (10000 + 64 * i) mem)) (10000 + 64 * i) (fun _ => 0) := by
  refine ⟨fun k hk => ?_, fun f e hf he => absurd he (Nat.not_lt_zero e)⟩
  unfold zhM
  rw [zclr_hf (by omega) (by omega), zclr_hf (by omega) (by omega), zclr_hf (by omega) (by omega), zclr_hf (by omega) (by omega), zclr_hf (by omega) (by omega)]
  exact if_pos (mo_hf (by omega))
section NW
variable {X d : Nat} {mem : zMem} {lk : zLk} {L : List Nat} {Q : Option Value → zMem → Prop}
theorem kd_h1 (i : Nat) {j : Nat} (hj : j = 7 ∨ j = 13 ∨ j = 19 ∨ j = 25 ∨ j = 31) : kd (10000 + 64 * i + j) = 9 := by
  rcases hj with y | y | y | y | y <;> subst y
  · exact kd_harr i 0 (by omega)
  · exact kd_harr i 1 (by omega)
  · exact kd_harr i 2 (by omega)
  · exact kd_harr i 3 (by omega)
  · exact kd_harr i 4 (by omega)
theorem ln_h1 (i j : Nat) : nI 6 = nI (ln X (10000 + 64 * i + j)) := by rw [ln_house X _ (by omega)]
theorem ok_newHouse (i : Nat) (hd : 0 < d) (hL : ∀ j, j < 64 → j ≠ 0 → 10000 + 64 * i + j ∉ L) (q : Q none (zhM (10000 + 64 * i) mem)) : zOk X d 40 [.ref (10000 + 64 * i)] mem lk L (zhK (10000 + 64 * i) lk) (zhL (10000 + 64 * i) L) Q := by
  have hlen : (zhL (10000 + 64 * i) L).length = L.length + 5 := by unfold zhL; simp only [List.length_append, List.length_cons, List.length_nil]
  have k3 := kd_house i
  have k9 : ∀ j, (j = 7 ∨ j = 13 ∨ j = 19 ∨ j = 25 ∨ j = 31) → kd (10000 + 64 * i + j) ≠ 13 := fun j hj => by rw [kd_h1 i hj]; decide
  refine zOk_go 40 (tbl := tX3_init) rfl zck_40 rfl hd (by rw [hlen]; omega) (by exact Nat.le_of_ble_eq_true rfl) (hf := by rfl) (h := ?_)
  refine ⟨10000 + 64 * i + 7, kd_h1 i (by omega), ln_h1 i 7, hL 7 (by omega) (by omega), by rw [hlen]; omega, k3, k9 7 (by omega), ?_⟩
  refine ⟨10000 + 64 * i + 13, kd_h1 i (by omega), ln_h1 i 13, ?_, ?_, k3, k9 13 (by omega), ?_⟩
  · simp only [List.mem_append, List.mem_singleton, not_or]; exact ⟨hL 13 (by omega) (by omega), by omega⟩
  · rw [hlen]; simp only [List.length_append, List.length_cons, List.length_nil]; omega
  refine ⟨10000 + 64 * i + 19, kd_h1 i (by omega), ln_h1 i 19, ?_, ?_, k3, k9 19 (by omega), ?_⟩
  · simp only [List.mem_append, List.mem_singleton, not_or]; exact ⟨⟨hL 19 (by omega) (by omega), by omega⟩, by omega⟩
  · rw [hlen]; simp only [List.length_append, List.length_cons, List.length_nil]; omega
  refine ⟨10000 + 64 * i + 25, kd_h1 i (by omega), ln_h1 i 25, ?_, ?_, k3, k9 25 (by omega), ?_⟩
  · simp only [List.mem_append, List.mem_singleton, not_or]; exact ⟨⟨⟨hL 25 (by omega) (by omega), by omega⟩, by omega⟩, by omega⟩
  · rw [hlen]; simp only [List.length_append, List.length_cons, List.length_nil]; omega
  refine ⟨10000 + 64 * i + 31, kd_h1 i (by omega), ln_h1 i 31, ?_, ?_, k3, k9 31 (by omega), ?_⟩
  · simp only [List.mem_append, List.mem_singleton, not_or]; exact ⟨⟨⟨⟨hL 31 (by omega) (by omega), by omega⟩, by omega⟩, by omega⟩, by omega⟩
  · rw [hlen]; simp only [List.length_append, List.length_cons, List.length_nil]; omega
  exact ⟨rfl, rfl, q⟩
end NW
