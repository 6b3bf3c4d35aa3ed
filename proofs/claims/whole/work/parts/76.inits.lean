/-! the law's rows; the makings of Acts, Asks, Foretold, Orders, Tape -/
/-- all that was made is as it was made -/
def zFsh (mem0 mem : zMem) (L : List Nat) : Prop := (∀ x, mo x ∈ L → mo x ≠ 130 → mo x ≠ 3420 → mem x = 0) ∧ ∀ x, mo x ∉ L → mem x = mem0 x
theorem zFsh.clr {mem0 mem : zMem} {L : List Nat} {o : Nat} (h : zFsh mem0 mem L) : zFsh mem0 (zclr o mem) (L ++ [o]) := by
  refine ⟨fun x hx h1 h2 => ?_, fun x hx => ?_⟩
  · by_cases z : mo x = o
    · exact if_pos z
    · show (if mo x = o then 0 else mem x) = 0
      rw [if_neg z]
      rw [List.mem_append, List.mem_singleton] at hx
      exact h.1 x (hx.resolve_right z) h1 h2
  · rw [List.mem_append, List.mem_singleton, not_or] at hx
    show (if mo x = o then 0 else mem x) = mem0 x
    rw [if_neg hx.2]; exact h.2 x hx.1
theorem zFsh.hm {mem0 mem : zMem} {L : List Nat} {h : Nat} (hF : zFsh mem0 mem L) : zFsh mem0 (zhM h mem) (zhL h L) := ((((hF.clr).clr).clr).clr).clr
section IN
variable {X d : Nat} {mem : zMem} {lk : zLk} {L : List Nat} {Q : Option Value → zMem → Prop}
theorem ok_tapeInit (hd : 0 < d) (h : 540 ∉ L) (q : Q none (zclr 540 mem)) : zOk X d 78 [.ref 530] mem lk L (va_up (zclk 540 lk) 530 (some 540)) (L ++ [540]) Q := by
  refine zOk_go 40 (tbl := tX6_init) rfl zck_78 rfl hd (by rw [List.length_append]; exact Nat.le_add_right _ _) (by exact Nat.le_of_ble_eq_true rfl) (hf := by rfl) (h := ?_)
  exact ⟨540, rfl, rfl, h, by rw [List.length_append]; exact Nat.le_refl _, rfl, by decide, rfl, rfl, q⟩
theorem ok_actsInit (hd : 0 < d) (h : 670 ∉ L) (q : Q none (zclr 670 mem)) : zOk X d 0 [.ref 660] mem lk L (va_up (zclk 670 lk) 660 (some 670)) (L ++ [670]) Q := by
  refine zOk_go 40 (tbl := tX0_init) rfl zck_0 rfl hd (by rw [List.length_append]; exact Nat.le_add_right _ _) (by exact Nat.le_of_ble_eq_true rfl) (hf := by rfl) (h := ?_)
  exact ⟨670, rfl, rfl, h, by rw [List.length_append]; exact Nat.le_refl _, rfl, by decide, rfl, rfl, q⟩
theorem ok_asksInit (hd : 0 < d) (h : 780 ∉ L) (q : Q none (zclr 780 mem)) : zOk X d 5 [.ref 770] mem lk L (va_up (zclk 780 lk) 770 (some 780)) (L ++ [780]) Q := by
  refine zOk_go 40 (tbl := tX1_init) rfl zck_5 rfl hd (by rw [List.length_append]; exact Nat.le_add_right _ _) (by exact Nat.le_of_ble_eq_true rfl) (hf := by rfl) (h := ?_)
  exact ⟨780, rfl, rfl, h, by rw [List.length_append]; exact Nat.le_refl _, rfl, by decide, rfl, rfl, q⟩
end IN
