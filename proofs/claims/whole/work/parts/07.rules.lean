/-! THE ROWS OF THE WALK ARE SOUND: rows that move locals and stack alone -/
theorem zins_cons {L : List Nat} {v : Value} {st : List Value} (h : zin L v) (hs : zins L st) : zins L (v :: st) := fun w hw => by
  rcases List.mem_cons.mp hw with e | e
  · rw [e]; exact h
  · exact hs w e
theorem zins_tl {L : List Nat} {v : Value} {st : List Value} (h : zins L (v :: st)) : zins L st := fun w hw => h w (List.mem_cons_of_mem _ hw)
theorem zins_hd {L : List Nat} {v : Value} {st : List Value} (h : zins L (v :: st)) : zin L v := h v List.mem_cons_self
theorem zins_set {L : List Nat} {v : Value} {ls : List Value} {i : Nat} (h : zin L v) (hs : zins L ls) : zins L (ls.set i v) := fun w hw => by
  rcases List.mem_or_eq_of_mem_set hw with e | e
  · exact hs w e
  · rw [e]; exact h
theorem zins_kl {L : List Nat} {ls : List Value} {i : Nat} (hs : zins L ls) : zins L (zkl ls i) := by
  unfold zkl
  split
  · exact hs
  · split
    · exact zins_set trivial hs
    · exact zins_set trivial hs
    · exact hs
theorem zins_s1 {L : List Nat} {v : Value} {ls : List Value} {i : Nat} (h : zin L v) (hs : zins L ls) : zins L (zs1 ls i v) := zins_set h (zins_kl hs)
theorem zins_s2 {L : List Nat} {v : Value} {ls : List Value} {i : Nat} (h : zin L v) (hs : zins L ls) : zins L (zs2 ls i v) := zins_set h (zins_set trivial (zins_kl hs))
theorem zins_at {L : List Nat} {v : Value} {ls : List Value} {i : Nat} (hs : zins L ls) (h : ls[i]? = some v) : zin L v := hs v (List.mem_of_getElem? h)
/-- the locals as the kit has them -/
def zlv (φ : Nat → Nat) (ls : List Value) : List (Nat × Value) := (List.range ls.length).filterMap fun i => match ls[i]? with
  | some v => if v = zU then none else some (i, ztr φ v)
  | none => none
theorem zlv_mem {φ : Nat → Nat} {ls : List Value} {q : Nat × Value} : q ∈ zlv φ ls ↔ ∃ v, ls[q.1]? = some v ∧ v ≠ zU ∧ q.2 = ztr φ v := by
  unfold zlv
  rw [List.mem_filterMap]
  constructor
  · rintro ⟨i, hi, h⟩
    split at h
    · rename_i v hv
      split at h
      · cases h
      · rename_i hne
        cases h
        exact ⟨v, hv, hne, rfl⟩
    · cases h
  · rintro ⟨v, hv, hne, hq⟩
    refine ⟨q.1, List.mem_range.mpr (List.getElem?_eq_some_iff.mp hv).1, ?_⟩
    rw [hv]
    show (if v = zU then none else some (q.1, ztr φ v)) = some q
    rw [if_neg hne, ← hq]
theorem zLs.has {φ : Nat → Nat} {n : Nat} {ls : List Value} {la : Array Slot} (h : zLs φ n ls la) : lv_has la n (zlv φ ls) := ⟨h.1, h.2.1, fun q hq => by
  obtain ⟨v, h1, h2, h3⟩ := zlv_mem.mp hq
  rw [h3]; exact h.2.2.2 q.1 v h1 h2⟩
theorem zkl_len (ls : List Value) (i : Nat) : (zkl ls i).length = ls.length := by
  unfold zkl
  split
  · rfl
  · split
    · rw [List.length_set]
    · rw [List.length_set]
    · rfl
theorem zkl_get {ls : List Value} {i j : Nat} {v : Value} (h : (zkl ls i)[j]? = some v) (hv : v ≠ zU) : ls[j]? = some v ∧ ¬ (j + 1 = i ∧ v.category = 2) := by
  have aux : ∀ k : Nat, (ls.set k zU)[j]? = some v → ls[j]? = some v ∧ ¬ k = j := fun k hk => by
    rw [List.getElem?_set] at hk
    by_cases e : k = j
    · rw [if_pos e] at hk
      split at hk
      · cases hk; exact absurd rfl hv
      · cases hk
    · rw [if_neg e] at hk
      exact ⟨hk, e⟩
  unfold zkl at h
  split at h
  · exact ⟨h, fun q => by omega⟩
  · rename_i k
    split at h
    · obtain ⟨h1, h2⟩ := aux k h
      exact ⟨h1, fun q => by omega⟩
    · obtain ⟨h1, h2⟩ := aux k h
      exact ⟨h1, fun q => by omega⟩
    · rename_i hx1 hx2
      refine ⟨h, fun q => ?_⟩
      have : k = j := by omega
      subst this
      cases v with
      | long x => exact hx1 x h
      | double x => exact hx2 x h
      | _ => exact absurd q.2 (by simp [Value.category])
theorem zLs.s1 {φ : Nat → Nat} {n i : Nat} {ls : List Value} {la la' : Array Slot} {v : Value} (h : zLs φ n ls la) (h' : lv_has la' n ((i, ztr φ v) :: (zlv φ ls).filter (fun q => !(q.1 == i) && !(q.1 + 1 == i && q.2.category == 2)))) : zLs φ n (zs1 ls i v) la' := by
  refine ⟨h'.1, h'.2.1, by unfold zs1; rw [List.length_set, zkl_len]; exact h.2.2.1, fun j w hj hw => ?_⟩
  unfold zs1 at hj
  rw [List.getElem?_set] at hj
  by_cases e : i = j
  · rw [if_pos e] at hj
    split at hj
    · cases hj
      exact h'.2.2 (j, ztr φ v) (by rw [e]; exact List.mem_cons_self)
    · cases hj
  · rw [if_neg e] at hj
    obtain ⟨h1, h2⟩ := zkl_get hj hw
    refine h'.2.2 (j, ztr φ w) (List.mem_cons_of_mem _ (List.mem_filter.mpr ⟨zlv_mem.mpr ⟨w, h1, hw, rfl⟩, ?_⟩))
    have e' : (j == i) = false := by simpa using fun q => e q.symm
    show (!(j == i) && !(j + 1 == i && (ztr φ w).category == 2)) = true
    rw [e', ztr_cat]
    by_cases e2 : j + 1 = i
    · have : ¬ w.category = 2 := fun q => h2 ⟨e2, q⟩
      simp [this]
    · simp [e2]
theorem zLs.s2 {φ : Nat → Nat} {n i : Nat} {ls : List Value} {la la' : Array Slot} {v : Value} (h : zLs φ n ls la) (h' : lv_has la' n ((i, ztr φ v) :: (zlv φ ls).filter (fun q => !(q.1 == i) && (!(q.1 == i + 1) && !(q.1 + 1 == i && q.2.category == 2))))) : zLs φ n (zs2 ls i v) la' := by
  refine ⟨h'.1, h'.2.1, by unfold zs2; rw [List.length_set, List.length_set, zkl_len]; exact h.2.2.1, fun j w hj hw => ?_⟩
  unfold zs2 at hj
  rw [List.getElem?_set] at hj
  by_cases e : i = j
  · rw [if_pos e] at hj
    split at hj
    · cases hj
      exact h'.2.2 (j, ztr φ v) (by rw [e]; exact List.mem_cons_self)
    · cases hj
  · rw [if_neg e, List.getElem?_set] at hj
    by_cases e3 : i + 1 = j
    · rw [if_pos e3] at hj
      split at hj
      · cases hj; exact absurd rfl hw
      · cases hj
    · rw [if_neg e3] at hj
      obtain ⟨h1, h2⟩ := zkl_get hj hw
      refine h'.2.2 (j, ztr φ w) (List.mem_cons_of_mem _ (List.mem_filter.mpr ⟨zlv_mem.mpr ⟨w, h1, hw, rfl⟩, ?_⟩))
      have e' : (j == i) = false := by simpa using fun q => e q.symm
      have e4 : (j == i + 1) = false := by simpa using fun q => e3 q.symm
      show (!(j == i) && (!(j == i + 1) && !(j + 1 == i && (ztr φ w).category == 2))) = true
      rw [e', e4, ztr_cat]
      by_cases e2 : j + 1 = i
      · have : ¬ w.category = 2 := fun q => h2 ⟨e2, q⟩
        simp [this]
      · simp [e2]
