/-! ranks: what an order costs; two that do not wait together -/
def zop (g : zH) : Nat := g 0 - zcnt g 11 (g 0)
def zco (o : Nat → Nat) : Nat → zH → Nat
  | 0, g => zop g
  | m + 1, g => zop g + zco o m (zpass o g)
def zndl (g : zH) (o : Nat → Nat) (dep d : Nat) : Bool := decide (0 < dep ∧ d < o (dep - 1) ∧ (g (13 + o (dep - 1)) ≠ g (13 + d) ∨ 10 ≤ g (13 + d)))
theorem ztakes_ext {o o' : Nat → Nat} {g : zH} : ∀ i, (∀ j, j < i → o j = o' j) → ztakes o g i = ztakes o' g i
  | 0, _ => rfl
  | i + 1, h => by
    show ztake1 (ztakes o g i) (o i) = ztake1 (ztakes o' g i) (o' i)
    rw [ztakes_ext i (fun j hj => h j (by omega)), h i (by omega)]
theorem zpass_eq {o o' : Nat → Nat} {g : zH} (h : ztakes o (zlets g (g 0)) (g 0) = ztakes o' (zlets g (g 0)) (g 0)) : zpass o g = zpass o' g := by
  show va_up (zages (zcalled (ztakes o (zlets g (g 0)) (g 0)) ≠ 0) (zmove (ztakes o (zlets g (g 0)) (g 0))) (g 0)) 6 (zages (zcalled (ztakes o (zlets g (g 0)) (g 0)) ≠ 0) (zmove (ztakes o (zlets g (g 0)) (g 0))) (g 0) 6 + 1) = va_up (zages (zcalled (ztakes o' (zlets g (g 0)) (g 0)) ≠ 0) (zmove (ztakes o' (zlets g (g 0)) (g 0))) (g 0)) 6 (zages (zcalled (ztakes o' (zlets g (g 0)) (g 0)) ≠ 0) (zmove (ztakes o' (zlets g (g 0)) (g 0))) (g 0) 6 + 1)
  rw [h]
theorem zco_ext {o o' : Nat → Nat} : ∀ m g, g 0 ≤ 6 → (∀ j, j < g 0 → o j = o' j) → zco o m g = zco o' m g
  | 0, _, _, _ => rfl
  | m + 1, g, h6, h => by
    show zop g + zco o m (zpass o g) = zop g + zco o' m (zpass o' g)
    rw [zpass_eq (ztakes_ext (o := o) (o' := o') (g 0) h)]
    have h0 : zpass o' g 0 = g 0 := zpass_ne h6 (by omega) (by omega) (by omega) (by omega)
    rw [zco_ext m (zpass o' g) (by omega) (fun j hj => h j (by omega))]
theorem zlets_at {g : zH} {e : Nat} : ∀ i, zlets g i (13 + e) = g (13 + e) ∨ zlets g i (13 + e) = 11
  | 0 => Or.inl rfl
  | i + 1 => by
    have ih := zlets_at (g := g) (e := e) i
    show zlet1 (zlets g i) i (13 + e) = _ ∨ zlet1 (zlets g i) i (13 + e) = 11
    by_cases z : i = e
    · subst z
      unfold zlet1
      split
      · exact Or.inr zup_eq
      · exact ih
    · rw [zlet1_ne (by omega)]; exact ih
theorem ztakes_at {o : Nat → Nat} {g : zH} {e : Nat} : ∀ i, ztakes o g i (13 + e) = g (13 + e) ∨ ztakes o g i (13 + e) = 10
  | 0 => Or.inl rfl
  | i + 1 => by
    have ih := ztakes_at (o := o) (g := g) (e := e) i
    show ztake1 (ztakes o g i) (o i) (13 + e) = _ ∨ ztake1 (ztakes o g i) (o i) (13 + e) = 10
    by_cases z : o i = e
    · rw [z]
      unfold ztake1
      split
      · exact Or.inr zup_eq
      · exact ih
    · rw [ztake1_ne (by omega)]; exact ih
theorem zpass_at {o : Nat → Nat} {g : zH} {e : Nat} (he : e < 6) : zpass o g (13 + e) = g (13 + e) ∨ 10 ≤ zpass o g (13 + e) := by
  have h1 : zpass o g (13 + e) = zmove (ztakes o (zlets g (g 0)) (g 0)) (13 + e) := by
    show va_up (zages _ (zmove (ztakes o (zlets g (g 0)) (g 0))) (g 0)) 6 _ (13 + e) = _
    rw [zup_ne (by omega), zages_0 (by omega)]
  have h2 : zmove (ztakes o (zlets g (g 0)) (g 0)) (13 + e) = ztakes o (zlets g (g 0)) (g 0) (13 + e) := by
    unfold zmove
    split
    · rfl
    · rw [zup_ne (by omega), zup_ne (by omega)]
  rw [h1, h2]
  rcases ztakes_at (o := o) (g := zlets g (g 0)) (e := e) (g 0) with h | h
  · rcases zlets_at (g := g) (e := e) (g 0) with k | k
    · exact Or.inl (h.trans k)
    · exact Or.inr (by rw [h, k]; omega)
  · exact Or.inr (by rw [h]; exact Nat.le_refl _)
theorem ztake1_id {X : zH} {a : Nat} (h : X (13 + a) ≠ X 4) : ztake1 X a = X := by
  unfold ztake1
  exact if_neg (fun z => h z.2.1)
theorem ztake1_comm {X : zH} {a b : Nat} (hab : a ≠ b) (h : ¬ (X (13 + a) = X 4 ∧ X (13 + b) = X 4)) : ztake1 (ztake1 X a) b = ztake1 (ztake1 X b) a := by
  by_cases ha : X (13 + a) = X 4
  · have hb : X (13 + b) ≠ X 4 := fun z => h ⟨ha, z⟩
    rw [ztake1_id hb, ztake1_id (X := ztake1 X a) (by rw [ztake1_ne (by omega), ztake1_ne (by omega)]; exact hb)]
  · rw [ztake1_id ha, ztake1_id (X := ztake1 X b) (by rw [ztake1_ne (by omega), ztake1_ne (by omega)]; exact ha)]
theorem ztakes_sw {t : Nat → Nat} {g : zH} {i : Nat} (hi : 0 < i) (h6 : g 0 ≤ 6) (h4 : g 4 < 10) (hab : t i < t (i - 1)) (hI : ¬ (g (13 + t (i - 1)) = g (13 + t i) ∧ g (13 + t i) < 10)) : ∀ k, ztakes (zswp t i) g (i + 1 + k) = ztakes t g (i + 1 + k)
  | 0 => by
    obtain ⟨j, rfl⟩ : ∃ j, i = j + 1 := ⟨i - 1, by omega⟩
    rw [show j + 1 - 1 = j from rfl] at hab hI
    have e0 : ztakes (zswp t (j + 1)) g j = ztakes t g j := ztakes_ext j (fun x hx => by
      unfold zswp
      rw [zup_ne (by omega), zup_ne (by omega)])
    have e1 : zswp t (j + 1) j = t (j + 1) := by
      unfold zswp
      rw [zup_ne (by omega)]; exact zup_eq
    have e2 : zswp t (j + 1) (j + 1) = t j := zup_eq
    show ztake1 (ztake1 (ztakes (zswp t (j + 1)) g j) (zswp t (j + 1) j)) (zswp t (j + 1) (j + 1)) = ztake1 (ztake1 (ztakes t g j) (t j)) (t (j + 1))
    rw [e0, e1, e2]
    refine ztake1_comm (by omega) (fun z => ?_)
    have x4 : ztakes t g j 4 = g 4 := ztakes_ne h6 (by omega) j
    rw [x4] at z
    rcases ztakes_at (o := t) (g := g) (e := t (j + 1)) j with h | h
    · rcases ztakes_at (o := t) (g := g) (e := t j) j with k | k
      · exact hI ⟨by rw [← h, ← k, z.1, z.2], by rw [← h, z.1]; exact h4⟩
      · rw [z.2] at k; omega
    · rw [z.1] at h; omega
  | k + 1 => by
    show ztake1 (ztakes (zswp t i) g (i + 1 + k)) (zswp t i (i + 1 + k)) = ztake1 (ztakes t g (i + 1 + k)) (t (i + 1 + k))
    rw [ztakes_sw hi h6 h4 hab hI k]
    unfold zswp
    rw [zup_ne (by omega), zup_ne (by omega)]
theorem zpass_sw {t : Nat → Nat} {g : zH} {i : Nat} (wf : zWF g) (hi : 0 < i) (hiN : i < g 0) (hab : t i < t (i - 1)) (hI : ¬ (g (13 + t (i - 1)) = g (13 + t i) ∧ g (13 + t i) < 10)) : zpass (zswp t i) g = zpass t g := by
  have w0 := wf.1
  have w9 := wf.2.2.1
  have w4 := wf.2.2.2.2.2.1
  have hl0 : zlets g (g 0) 0 = g 0 := zlets_ne (by omega) _ w0
  have hl4 : zlets g (g 0) 4 = g 4 := zlets_ne (by omega) _ w0
  refine zpass_eq ?_
  have k := ztakes_sw (t := t) (g := zlets g (g 0)) hi (by omega) (by omega) hab (fun z => ?_) (g 0 - (i + 1))
  · rw [show i + 1 + (g 0 - (i + 1)) = g 0 by omega] at k
    exact k
  · rcases zlets_at (g := g) (e := t (i - 1)) (g 0) with h | h
    · rcases zlets_at (g := g) (e := t i) (g 0) with k | k
      · exact hI ⟨by rw [← h, ← k]; exact z.1, by rw [← k]; exact z.2⟩
      · rw [k] at z; omega
    · rw [z.1] at h; omega
theorem zco_sw {t : Nat → Nat} {i N : Nat} (hi : 0 < i) (hiN : i < N) (hN6 : N ≤ 6) (ht : ∀ j, j < N → t j < N) (hab : t i < t (i - 1)) : ∀ m g, zWF g → g 0 = N → g 6 + m ≤ 999999 → ¬ (g (13 + t (i - 1)) = g (13 + t i) ∧ g (13 + t i) < 10) → zco (zswp t i) m g = zco t m g
  | 0, _, _, _, _, _ => rfl
  | m + 1, g, wf, h0, h6, hI => by
    show zop g + zco (zswp t i) m (zpass (zswp t i) g) = zop g + zco t m (zpass t g)
    have a1 := ht i hiN
    have a2 := ht (i - 1) (by omega)
    have p0 : zpass t g 0 = g 0 := zpass_ne wf.1 (by omega) (by omega) (by omega) (by omega)
    have p6 : zpass t g 6 = g 6 + 1 := zpass_6 wf.1
    rw [zpass_sw wf hi (by omega) hab hI, zco_sw hi hiN hN6 ht hab m (zpass t g) (zpass_wf wf (by omega)) (by omega) (by omega) (fun z => ?_)]
    rcases zpass_at (o := t) (g := g) (e := t (i - 1)) (by omega) with h | h
    · rcases zpass_at (o := t) (g := g) (e := t i) (by omega) with k | k
      · exact hI ⟨by rw [← h, ← k]; exact z.1, by rw [← k]; exact z.2⟩
      · omega
    · rw [z.1] at h; omega
theorem zop_le {g : zH} : zop g ≤ g 0 := by unfold zop; omega
theorem zco_le {o : Nat → Nat} : ∀ m g, g 0 ≤ 6 → zco o m g ≤ 6 * (m + 1)
  | 0, g, h => by show zop g ≤ _; have := zop_le (g := g); omega
  | m + 1, g, h => by
    show zop g + zco o m (zpass o g) ≤ _
    have h0 : zpass o g 0 = g 0 := zpass_ne h (by omega) (by omega) (by omega) (by omega)
    have := zco_le (o := o) m (zpass o g) (by omega)
    have := zop_le (g := g)
    omega
/-- two that begin anew come to the same -/
theorem zsr_rel {C : (Nat → Nat) → Nat} {N b : Nat} {nd : (Nat → Nat) → Nat → Nat → Bool} (hC : ∀ o, C o < b) : ∀ m o dep S S', (S = S' ∨ (b ≤ S.1 ∧ b ≤ S'.1)) → (zsr C N nd m o dep S = zsr C N nd m o dep S' ∨ (b ≤ (zsr C N nd m o dep S).1 ∧ b ≤ (zsr C N nd m o dep S').1))
  | 0, o, dep, S, S', h => by
    rcases h with h | ⟨h1, h2⟩
    · exact Or.inl (by rw [h])
    · have hc := hC o
      refine Or.inl ?_
      show zwS C N o S = zwS C N o S'
      unfold zwS
      rw [if_pos (by omega), if_pos (by omega)]
  | m + 1, o, dep, S, S', h => by
    show (zfld _ N S = zfld _ N S' ∨ (b ≤ (zfld _ N S).1 ∧ b ≤ (zfld _ N S').1))
    have key : ∀ i, (zfld (fun d S => if zud o dep d = true ∨ nd o dep d = true then S else zsr C N nd m (va_up o dep d) (dep + 1) S) i S = zfld (fun d S => if zud o dep d = true ∨ nd o dep d = true then S else zsr C N nd m (va_up o dep d) (dep + 1) S) i S' ∨ (b ≤ (zfld (fun d S => if zud o dep d = true ∨ nd o dep d = true then S else zsr C N nd m (va_up o dep d) (dep + 1) S) i S).1 ∧ b ≤ (zfld (fun d S => if zud o dep d = true ∨ nd o dep d = true then S else zsr C N nd m (va_up o dep d) (dep + 1) S) i S').1)) := by
      intro i
      induction i with
      | zero => exact h
      | succ i ih =>
        show ((if zud o dep i = true ∨ nd o dep i = true then _ else zsr C N nd m (va_up o dep i) (dep + 1) (zfld _ i S)) = (if zud o dep i = true ∨ nd o dep i = true then _ else zsr C N nd m (va_up o dep i) (dep + 1) (zfld _ i S')) ∨ (b ≤ (if zud o dep i = true ∨ nd o dep i = true then _ else zsr C N nd m (va_up o dep i) (dep + 1) (zfld _ i S)).1 ∧ b ≤ (if zud o dep i = true ∨ nd o dep i = true then _ else zsr C N nd m (va_up o dep i) (dep + 1) (zfld _ i S')).1))
        by_cases z : zud o dep i = true ∨ nd o dep i = true
        · rw [if_pos z, if_pos z]; exact ih
        · rw [if_neg z, if_neg z]
          exact zsr_rel hC m _ _ _ _ ih
    exact key N
/-- what the search comes to, for a house and n minutes -/
def zRes (g : zH) (n : Nat) : Nat × (Nat → Int32) := zsr (fun o => zco o n g) (g 0) (fun _ _ _ => false) (g 0) (fun e => e) 0 (100000000, fun _ => nI 0)
section RE
variable {g : zH} {n : Nat}
theorem zRes_all (wf : zWF g) (hn : n ≤ 40) {S : Nat × (Nat → Int32)} {o : Nat → Nat} (hS : 1000 ≤ S.1) : zsr (fun o => zco o n g) (g 0) (fun _ _ _ => false) (g 0) o 0 S = zRes g n := by
  have w0 := wf.1
  have Cx : ∀ o o' : Nat → Nat, (∀ j, j < g 0 → o j = o' j) → zco o n g = zco o' n g := fun o o' h => zco_ext n g w0 h
  have hC : ∀ o : Nat → Nat, zco o n g < 1000 := fun o => by have := zco_le (o := o) n g w0; omega
  rw [zsr_ext Cx (fun _ _ _ _ _ => rfl) (g 0) o (fun e => e) 0 S (by omega) (fun j hj => by omega)]
  rcases zsr_rel (C := fun o => zco o n g) (N := g 0) (nd := fun _ _ _ => false) hC (g 0) (fun e => e) 0 S (100000000, fun _ => nI 0) (Or.inr ⟨hS, by show 1000 ≤ 100000000; omega⟩) with h | h
  · exact h
  · exfalso
    have h1 := zsr_le (C := fun o => zco o n g) (N := g 0) Cx (g 0) (fun e => e) 0 S (fun e => e) (by omega) ⟨fun _ _ => rfl, fun _ hj => hj, fun _ _ _ _ e => e⟩
    have := hC (fun e => e)
    have h2 : (zsr (fun o => zco o n g) (g 0) (fun _ _ _ => false) (g 0) (fun e => e) 0 S).1 ≤ zco (fun e => e) n g := h1
    omega
theorem zRes_nd (wf : zWF g) (hn : n ≤ 40) (h6 : g 6 ≤ 999) {S : Nat × (Nat → Int32)} {o : Nat → Nat} (hS : 1000 ≤ S.1) : zsr (fun o => zco o n g) (g 0) (zndl g) (g 0) o 0 S = zRes g n := by
  have w0 := wf.1
  have Cx : ∀ o o' : Nat → Nat, (∀ j, j < g 0 → o j = o' j) → zco o n g = zco o' n g := fun o o' h => zco_ext n g w0 h
  rw [← zRes_all wf hn (o := o) hS]
  refine (zsr_eq (C := fun o => zco o n g) (nd := zndl g) Cx (fun o o' dep d h => ?_) (fun o d => ?_) (fun o dep d h => ?_) (fun t i hi hiN ht h => ?_) (g 0) o 0 S (by omega) ⟨fun j hj => by omega, fun i j hi => by omega⟩ (fun h => by omega)).symm
  · unfold zndl
    by_cases z : 0 < dep
    · rw [h (dep - 1) (by omega)]
    · rw [decide_eq_false (fun y => z y.1), decide_eq_false (fun y => z y.1)]
  · unfold zndl
    exact decide_eq_false (fun y => by have := y.1; omega)
  · unfold zndl at h
    rw [decide_eq_true_eq] at h
    exact h.2.1
  · unfold zndl at h
    rw [decide_eq_true_eq] at h
    exact zco_sw hi hiN w0 ht h.2.1 n g wf rfl (by omega) (fun z => by
      rcases h.2.2 with y | y
      · exact y z.1
      · omega)
theorem zRes_lt (wf : zWF g) (hn : n ≤ 40) : (zRes g n).1 < 1000 := by
  have w0 := wf.1
  have h1 := zsr_le (C := fun o => zco o n g) (N := g 0) (fun o o' h => zco_ext n g w0 h) (g 0) (fun e => e) 0 (100000000, fun _ => nI 0) (fun e => e) (by omega) ⟨fun _ _ => rfl, fun _ hj => hj, fun _ _ _ _ e => e⟩
  have h2 : (zRes g n).1 ≤ zco (fun e => e) n g := h1
  have := zco_le (o := fun e => e) n g w0
  omega
end RE
