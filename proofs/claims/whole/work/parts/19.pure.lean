/-! a minute of a house, in numbers -/
theorem zWF.kept {g g' : zH} (w : zWF g) (h0 : g' 0 = g 0) (h1 : g' 1 = g 1) (h2 : g' 2 = g 2) (h3 : g' 3 = g 3) (h4 : g' 4 < g 1) (h5 : g' 5 ≤ 1) (h6 : g' 6 ≤ 2000000)
    (h : ∀ e, e < g 0 → (g' (7 + e) = g (7 + e)) ∧ (g' (13 + e) < g 1 ∨ g' (13 + e) = 10 ∨ g' (13 + e) = 11) ∧ g' (19 + e) < g 1 ∧ (1 ≤ g' (25 + e) ∧ g' (25 + e) ≤ 9) ∧ g' (31 + e) ≤ 60) : zWF g' := by
  obtain ⟨a0, a1, a2, a3, a4, a5, a6, a7, a8⟩ := w
  refine ⟨by omega, by omega, by omega, by omega, by omega, by omega, h5, h6, fun e he => ?_⟩
  rw [h0] at he
  obtain ⟨b1, b2, b3, b4, b5⟩ := h e he
  obtain ⟨c1, -⟩ := a8 e he
  rw [h1, b1]
  exact ⟨c1, b2, b3, b4, b5⟩
theorem zWF.sAt {g : zH} (w : zWF g) {e v : Nat} (he : e < 6) (hv : v < g 1 ∨ v = 10 ∨ v = 11) : zWF (va_up g (13 + e) v) := by
  have n : ∀ j, j ≠ 13 + e → va_up g (13 + e) v j = g j := fun j hj => zup_ne hj
  have w0 := w.1
  refine w.kept (n 0 (by omega)) (n 1 (by omega)) (n 2 (by omega)) (n 3 (by omega)) (by rw [n 4 (by omega)]; exact w.2.2.2.2.2.1) (by rw [n 5 (by omega)]; exact w.2.2.2.2.2.2.1) (by rw [n 6 (by omega)]; exact w.2.2.2.2.2.2.2.1) (fun e' he' => ?_)
  obtain ⟨c1, c2, c3, c4, c5⟩ := w.2.2.2.2.2.2.2.2 e' he'
  refine ⟨n _ (by omega), ?_, by rw [n _ (by omega)]; exact c3, by rw [n _ (by omega)]; exact c4, by rw [n _ (by omega)]; exact c5⟩
  by_cases q : e' = e
  · subst q; rw [zup_eq]; exact hv
  · rw [n _ (by omega)]; exact c2
theorem zWF.sTo {g : zH} (w : zWF g) {e v : Nat} (he : e < 6) (hv : v < g 1) : zWF (va_up g (19 + e) v) := by
  have n : ∀ j, j ≠ 19 + e → va_up g (19 + e) v j = g j := fun j hj => zup_ne hj
  have w0 := w.1
  refine w.kept (n 0 (by omega)) (n 1 (by omega)) (n 2 (by omega)) (n 3 (by omega)) (by rw [n 4 (by omega)]; exact w.2.2.2.2.2.1) (by rw [n 5 (by omega)]; exact w.2.2.2.2.2.2.1) (by rw [n 6 (by omega)]; exact w.2.2.2.2.2.2.2.1) (fun e' he' => ?_)
  obtain ⟨c1, c2, c3, c4, c5⟩ := w.2.2.2.2.2.2.2.2 e' he'
  refine ⟨n _ (by omega), by rw [n _ (by omega)]; exact c2, ?_, by rw [n _ (by omega)]; exact c4, by rw [n _ (by omega)]; exact c5⟩
  by_cases q : e' = e
  · subst q; rw [zup_eq]; exact hv
  · rw [n _ (by omega)]; exact c3
theorem zWF.sWt {g : zH} (w : zWF g) {e v : Nat} (he : e < 6) (hv : 1 ≤ v ∧ v ≤ 9) : zWF (va_up g (25 + e) v) := by
  have n : ∀ j, j ≠ 25 + e → va_up g (25 + e) v j = g j := fun j hj => zup_ne hj
  have w0 := w.1
  refine w.kept (n 0 (by omega)) (n 1 (by omega)) (n 2 (by omega)) (n 3 (by omega)) (by rw [n 4 (by omega)]; exact w.2.2.2.2.2.1) (by rw [n 5 (by omega)]; exact w.2.2.2.2.2.2.1) (by rw [n 6 (by omega)]; exact w.2.2.2.2.2.2.2.1) (fun e' he' => ?_)
  obtain ⟨c1, c2, c3, c4, c5⟩ := w.2.2.2.2.2.2.2.2 e' he'
  refine ⟨n _ (by omega), by rw [n _ (by omega)]; exact c2, by rw [n _ (by omega)]; exact c3, ?_, by rw [n _ (by omega)]; exact c5⟩
  by_cases q : e' = e
  · subst q; rw [zup_eq]; exact hv
  · rw [n _ (by omega)]; exact c4
theorem zWF.sHt {g : zH} (w : zWF g) {e v : Nat} (he : e < 6) (hv : v ≤ 60) : zWF (va_up g (31 + e) v) := by
  have n : ∀ j, j ≠ 31 + e → va_up g (31 + e) v j = g j := fun j hj => zup_ne hj
  have w0 := w.1
  refine w.kept (n 0 (by omega)) (n 1 (by omega)) (n 2 (by omega)) (n 3 (by omega)) (by rw [n 4 (by omega)]; exact w.2.2.2.2.2.1) (by rw [n 5 (by omega)]; exact w.2.2.2.2.2.2.1) (by rw [n 6 (by omega)]; exact w.2.2.2.2.2.2.2.1) (fun e' he' => ?_)
  obtain ⟨c1, c2, c3, c4, c5⟩ := w.2.2.2.2.2.2.2.2 e' he'
  refine ⟨n _ (by omega), by rw [n _ (by omega)]; exact c2, by rw [n _ (by omega)]; exact c3, by rw [n _ (by omega)]; exact c4, ?_⟩
  by_cases q : e' = e
  · subst q; rw [zup_eq]; exact hv
  · rw [n _ (by omega)]; exact c5
theorem zWF.s4 {g : zH} (w : zWF g) {v : Nat} (hv : v < g 1) : zWF (va_up g 4 v) := by
  have n : ∀ j, j ≠ 4 → va_up g 4 v j = g j := fun j hj => zup_ne hj
  refine w.kept (n 0 (by omega)) (n 1 (by omega)) (n 2 (by omega)) (n 3 (by omega)) (by rw [zup_eq]; exact hv) (by rw [n 5 (by omega)]; exact w.2.2.2.2.2.2.1) (by rw [n 6 (by omega)]; exact w.2.2.2.2.2.2.2.1) (fun e' he' => ?_)
  obtain ⟨c1, c2, c3, c4, c5⟩ := w.2.2.2.2.2.2.2.2 e' he'
  exact ⟨n _ (by omega), by rw [n _ (by omega)]; exact c2, by rw [n _ (by omega)]; exact c3, by rw [n _ (by omega)]; exact c4, by rw [n _ (by omega)]; exact c5⟩
theorem zWF.s5 {g : zH} (w : zWF g) {v : Nat} (hv : v ≤ 1) : zWF (va_up g 5 v) := by
  have n : ∀ j, j ≠ 5 → va_up g 5 v j = g j := fun j hj => zup_ne hj
  refine w.kept (n 0 (by omega)) (n 1 (by omega)) (n 2 (by omega)) (n 3 (by omega)) (by rw [n 4 (by omega)]; exact w.2.2.2.2.2.1) (by rw [zup_eq]; exact hv) (by rw [n 6 (by omega)]; exact w.2.2.2.2.2.2.2.1) (fun e' he' => ?_)
  obtain ⟨c1, c2, c3, c4, c5⟩ := w.2.2.2.2.2.2.2.2 e' he'
  exact ⟨n _ (by omega), by rw [n _ (by omega)]; exact c2, by rw [n _ (by omega)]; exact c3, by rw [n _ (by omega)]; exact c4, by rw [n _ (by omega)]; exact c5⟩
theorem zWF.s6 {g : zH} (w : zWF g) {v : Nat} (hv : v ≤ 2000000) : zWF (va_up g 6 v) := by
  have n : ∀ j, j ≠ 6 → va_up g 6 v j = g j := fun j hj => zup_ne hj
  refine w.kept (n 0 (by omega)) (n 1 (by omega)) (n 2 (by omega)) (n 3 (by omega)) (by rw [n 4 (by omega)]; exact w.2.2.2.2.2.1) (by rw [n 5 (by omega)]; exact w.2.2.2.2.2.2.1) (by rw [zup_eq]; exact hv) (fun e' he' => ?_)
  obtain ⟨c1, c2, c3, c4, c5⟩ := w.2.2.2.2.2.2.2.2 e' he'
  exact ⟨n _ (by omega), by rw [n _ (by omega)]; exact c2, by rw [n _ (by omega)]; exact c3, by rw [n _ (by omega)]; exact c4, by rw [n _ (by omega)]; exact c5⟩
/-- what goes on but the numbers that a minute changes -/
def zcool (g : zH) (e : Nat) : zH := va_up g (31 + e) (g (31 + e) - 1)
def zwarm (g : zH) (e : Nat) : zH := va_up g (31 + e) (if g (31 + e) < 60 then g (31 + e) + 1 else g (31 + e))
def zlose (g : zH) (e : Nat) : zH := va_up g (25 + e) (if 1 < g (25 + e) then g (25 + e) - 1 else g (25 + e))
def zage (g : zH) (e : Nat) (sh : Prop) [Decidable sh] : zH :=
  if g (7 + e) = 2 then (if sh then zlose (zcool g e) e else zcool g e)
  else if g (7 + e) = 3 then (if g 6 % 2 = 0 then g else zcool g e)
  else if g (7 + e) = 4 then zwarm g e
  else if g (7 + e) = 5 then (if zwarm g e (31 + e) < 10 then zwarm g e else zlose (zwarm g e) e)
  else zcool g e
theorem zcool_wf {g : zH} (w : zWF g) {e : Nat} (he : e < g 0) : zWF (zcool g e) := w.sHt (by have := w.1; omega) (by have := (w.2.2.2.2.2.2.2.2 e he).2.2.2.2; omega)
theorem zwarm_wf {g : zH} (w : zWF g) {e : Nat} (he : e < g 0) : zWF (zwarm g e) := w.sHt (by have := w.1; omega) (by have := (w.2.2.2.2.2.2.2.2 e he).2.2.2.2; split <;> omega)
theorem zlose_wf {g : zH} (w : zWF g) {e : Nat} (he : e < g 0) : zWF (zlose g e) := w.sWt (by have := w.1; omega) (by have := (w.2.2.2.2.2.2.2.2 e he).2.2.2.1; split <;> omega)
theorem zcool_ne {g : zH} {e j : Nat} (h : j ≠ 31 + e) : zcool g e j = g j := zup_ne h
theorem zwarm_ne {g : zH} {e j : Nat} (h : j ≠ 31 + e) : zwarm g e j = g j := zup_ne h
theorem zlose_ne {g : zH} {e j : Nat} (h : j ≠ 25 + e) : zlose g e j = g j := zup_ne h
theorem zage_ne {g : zH} {e j : Nat} {sh : Prop} [Decidable sh] (h : j ≠ 25 + e) (h2 : j ≠ 31 + e) : zage g e sh j = g j := by
  unfold zage
  repeat' split
  all_goals first | rfl | rw [zcool_ne h2] | rw [zwarm_ne h2] | rw [zlose_ne h, zcool_ne h2] | rw [zlose_ne h, zwarm_ne h2]
theorem zage_wf {g : zH} (w : zWF g) {e : Nat} {sh : Prop} [Decidable sh] (he : e < g 0) : zWF (zage g e sh) := by
  have c1 := zcool_wf w he
  have c2 := zwarm_wf w he
  have c3 : zWF (zlose (zcool g e) e) := zlose_wf c1 (by rw [zcool_ne (by omega)]; exact he)
  have c4 : zWF (zlose (zwarm g e) e) := zlose_wf c2 (by rw [zwarm_ne (by omega)]; exact he)
  unfold zage
  repeat' split
  all_goals assumption
/-- all that are not served grow older; went: the car went -/
def zages (went : Prop) [Decidable went] (g : zH) : Nat → zH
  | 0 => g
  | i + 1 => if zages went g i (13 + i) = 11 then zages went g i else zage (zages went g i) i (went ∧ zages went g i (13 + i) = 10)
theorem zages_0 {went : Prop} [Decidable went] {g : zH} {j : Nat} (hj : j < 25) : ∀ i, zages went g i j = g j
  | 0 => rfl
  | i + 1 => by
    unfold zages
    split
    · exact zages_0 hj i
    · rw [zage_ne (by omega) (by omega)]; exact zages_0 hj i
theorem zages_wf {went : Prop} [Decidable went] {g : zH} (w : zWF g) : ∀ i, i ≤ g 0 → zWF (zages went g i)
  | 0, _ => w
  | i + 1, h => by
    have ih := zages_wf (went := went) w i (by omega)
    unfold zages
    split
    · exact ih
    · exact zage_wf ih (by rw [zages_0 (by omega)]; omega)
/-- let out -/
def zlet1 (g : zH) (e : Nat) : zH := if g (19 + e) = g 4 ∧ (g (13 + e) = 10 ∨ g (13 + e) = g 4) then va_up g (13 + e) 11 else g
def zlets (g : zH) : Nat → zH
  | 0 => g
  | i + 1 => zlet1 (zlets g i) i
theorem zlet1_ne {g : zH} {e j : Nat} (h : j ≠ 13 + e) : zlet1 g e j = g j := by
  unfold zlet1
  split
  · exact zup_ne h
  · rfl
theorem zlets_ne {g : zH} {j : Nat} (hj : j < 13 ∨ 19 ≤ j) : ∀ i, i ≤ 6 → zlets g i j = g j
  | 0, _ => rfl
  | i + 1, h => by
    show zlet1 (zlets g i) i j = g j
    rw [zlet1_ne (by omega)]; exact zlets_ne hj i (by omega)
theorem zlet1_wf {g : zH} (w : zWF g) {e : Nat} (he : e < 6) : zWF (zlet1 g e) := by
  unfold zlet1
  split
  · exact w.sAt he (Or.inr (Or.inr rfl))
  · exact w
theorem zlets_wf {g : zH} (w : zWF g) : ∀ i, i ≤ 6 → zWF (zlets g i)
  | 0, _ => w
  | i + 1, h => zlet1_wf (zlets_wf w i (by omega)) (by omega)
/-- how many are at a place, and the sum of a field of them -/
def zcnt (g : zH) (p : Nat) : Nat → Nat
  | 0 => 0
  | i + 1 => zcnt g p i + (if g (13 + i) = p then 1 else 0)
def zwts (g : zH) (p f : Nat) : Nat → Nat
  | 0 => 0
  | i + 1 => zwts g p f i + (if g (13 + i) = p then g (f + i) else 0)
theorem zcnt_le (g : zH) (p : Nat) : ∀ i, zcnt g p i ≤ i
  | 0 => Nat.le_refl _
  | i + 1 => by
    have := zcnt_le g p i
    unfold zcnt
    split <;> omega
/-- take in -/
def ztake1 (g : zH) (k : Nat) : zH := if k < g 0 ∧ g (13 + k) = g 4 ∧ zcnt g 10 (g 0) < g 2 ∧ zwts g 10 25 (g 0) + g (25 + k) ≤ g 3 then va_up g (13 + k) 10 else g
def ztakes (ord : Nat → Nat) (g : zH) : Nat → zH
  | 0 => g
  | i + 1 => ztake1 (ztakes ord g i) (ord i)
theorem ztake1_ne {g : zH} {k j : Nat} (h : j ≠ 13 + k) : ztake1 g k j = g j := by
  unfold ztake1
  split
  · exact zup_ne h
  · rfl
theorem ztake1_out {g : zH} {k j : Nat} (hn : g 0 ≤ 6) (hj : j < 13 ∨ 19 ≤ j) : ztake1 g k j = g j := by
  unfold ztake1
  split
  · rename_i c; exact zup_ne (by omega)
  · rfl
theorem ztakes_ne {ord : Nat → Nat} {g : zH} {j : Nat} (hn : g 0 ≤ 6) (hj : j < 13 ∨ 19 ≤ j) : ∀ i, ztakes ord g i j = g j
  | 0 => rfl
  | i + 1 => by
    show ztake1 (ztakes ord g i) (ord i) j = g j
    rw [ztake1_out (by rw [ztakes_ne hn (by omega) i]; exact hn) hj]; exact ztakes_ne hn hj i
theorem ztake1_wf {g : zH} (w : zWF g) (k : Nat) : zWF (ztake1 g k) := by
  unfold ztake1
  split
  · rename_i c; exact w.sAt (by have := w.1; omega) (Or.inr (Or.inl rfl))
  · exact w
theorem ztakes_wf {ord : Nat → Nat} {g : zH} (w : zWF g) : ∀ i, zWF (ztakes ord g i)
  | 0 => w
  | i + 1 => ztake1_wf (ztakes_wf w i) (ord i)
theorem zcnt_up {g : zH} {k p v : Nat} (hp : g (13 + k) ≠ p) : ∀ i, zcnt (va_up g (13 + k) v) p i = zcnt g p i + (if k < i ∧ v = p then 1 else 0)
  | 0 => by simp [zcnt]
  | i + 1 => by
    have ih := zcnt_up (v := v) hp i
    show zcnt (va_up g (13 + k) v) p i + (if va_up g (13 + k) v (13 + i) = p then 1 else 0) = zcnt g p i + (if g (13 + i) = p then 1 else 0) + _
    rw [ih]
    by_cases e : i = k
    · subst e
      rw [zup_eq, if_neg hp, if_neg (show ¬ (i < i ∧ v = p) by omega)]
      by_cases hv : v = p
      · rw [if_pos hv, if_pos (show i < i + 1 ∧ v = p from ⟨by omega, hv⟩)]
      · rw [if_neg hv, if_neg (show ¬ (i < i + 1 ∧ v = p) from fun q => hv q.2)]
    · rw [zup_ne (by omega), Nat.add_right_comm]
      by_cases hv : k < i ∧ v = p
      · rw [if_pos hv, if_pos (show k < i + 1 ∧ v = p from ⟨by omega, hv.2⟩)]
      · rw [if_neg hv, if_neg (show ¬ (k < i + 1 ∧ v = p) from fun q => hv ⟨by omega, q.2⟩)]
theorem zwts_up {g : zH} {k p v f : Nat} (hp : g (13 + k) ≠ p) (hf : 19 ≤ f) (hk : k < 6) : ∀ i, zwts (va_up g (13 + k) v) p f i = zwts g p f i + (if k < i ∧ v = p then g (f + k) else 0)
  | 0 => by simp [zwts]
  | i + 1 => by
    have ih := zwts_up (v := v) hp hf hk i
    show zwts (va_up g (13 + k) v) p f i + (if va_up g (13 + k) v (13 + i) = p then va_up g (13 + k) v (f + i) else 0) = zwts g p f i + (if g (13 + i) = p then g (f + i) else 0) + _
    rw [ih, show va_up g (13 + k) v (f + i) = g (f + i) from zup_ne (by omega)]
    by_cases e : i = k
    · subst e
      rw [zup_eq, if_neg hp, if_neg (show ¬ (i < i ∧ v = p) by omega)]
      by_cases hv : v = p
      · rw [if_pos hv, if_pos (show i < i + 1 ∧ v = p from ⟨by omega, hv⟩)]
      · rw [if_neg hv, if_neg (show ¬ (i < i + 1 ∧ v = p) from fun q => hv q.2)]
    · rw [zup_ne (by omega), Nat.add_right_comm]
      by_cases hv : k < i ∧ v = p
      · rw [if_pos hv, if_pos (show k < i + 1 ∧ v = p from ⟨by omega, hv.2⟩)]
      · rw [if_neg hv, if_neg (show ¬ (k < i + 1 ∧ v = p) from fun q => hv ⟨by omega, q.2⟩)]
/-- full: nothing more gets in -/
theorem ztakes_full {ord : Nat → Nat} {g : zH} (hn : g 0 ≤ 6) {i : Nat} (h : ¬ zcnt (ztakes ord g i) 10 (g 0) < g 2) : ∀ j, ztakes ord g (i + j) = ztakes ord g i
  | 0 => rfl
  | j + 1 => by
    have ih := ztakes_full hn h j
    show ztake1 (ztakes ord g (i + j)) (ord (i + j)) = _
    rw [ih]
    unfold ztake1
    rw [if_neg]
    intro q
    have q3 := q.2.2.1
    rw [ztakes_ne (j := 0) hn (by omega), ztakes_ne (j := 2) hn (by omega)] at q3
    exact h q3
/-! bits -/
def zpc (b : Nat) : Nat := b % 2 + b / 2 % 2 + b / 4 % 2 + b / 8 % 2 + b / 16 % 2 + b / 32 % 2
theorem zpc_t : ∀ i, i < 6 → ∀ a, a < 2 ^ i → zpc (a ||| 2 ^ i) = zpc a + 1 := by decide +kernel
theorem zpc_bits (g : zH) (p : Nat) : ∀ i, i ≤ 6 → zpc (zbits g p i) = zcnt g p i
  | 0, _ => by show zpc 0 = 0; decide
  | i + 1, h => by
    have ih := zpc_bits g p i (by omega)
    unfold zbits zcnt
    split
    · rw [zpc_t i (by omega) _ (zbits_lt g p i (by omega)), ih]
    · rw [ih]; rfl
theorem zbit_or {a i e : Nat} (h : a < 2 ^ i) : (a ||| 2 ^ i) / 2 ^ e % 2 = if e = i then 1 else a / 2 ^ e % 2 := by
  rw [← Nat.toNat_testBit, ← Nat.toNat_testBit, Nat.testBit_or, Nat.testBit_two_pow]
  by_cases q : e = i
  · subst q; rw [if_pos rfl]; simp
  · rw [if_neg q]
    have : decide (i = e) = false := by simpa using fun z => q z.symm
    rw [this, Bool.or_false]
theorem zbits_bit (g : zH) (p : Nat) {e : Nat} : ∀ i, i ≤ 9 → e < i → zbits g p i / 2 ^ e % 2 = if g (13 + e) = p then 1 else 0
  | 0, _, h => by omega
  | i + 1, hi, h => by
    have hlt := zbits_lt g p i (by omega)
    by_cases q : e = i
    · subst q
      unfold zbits
      split
      · rw [zbit_or hlt, if_pos rfl]
      · rw [Nat.div_eq_of_lt hlt]
    · have ih := zbits_bit g p i (by omega) (show e < i by omega)
      unfold zbits
      split
      · rw [zbit_or hlt, if_neg q]; exact ih
      · exact ih
theorem zsum_bits (g : zH) (p f m : Nat) (hm : m ≤ 9) : ∀ i, i ≤ m → zsum g f (zbits g p m) i = zwts g p f i
  | 0, _ => rfl
  | i + 1, h => by
    have ih := zsum_bits g p f m hm i (by omega)
    unfold zsum zwts
    rw [ih, zbits_bit g p m hm (by omega)]
    split <;> simp
theorem zwts_le (g : zH) (p f M : Nat) : ∀ i, (∀ e, e < i → g (f + e) ≤ M) → zwts g p f i ≤ i * M
  | 0, _ => by simp [zwts]
  | i + 1, h => by
    have ih := zwts_le g p f M i (fun e he => h e (by omega))
    have h1 := h i (by omega)
    unfold zwts
    rw [Nat.succ_mul]
    split <;> omega
/-- the floors that call -/
def zcal (g : zH) : Nat → Nat
  | 0 => 0
  | i + 1 => if g (13 + i) = 10 then zcal g i ||| 2 ^ g (19 + i) else if g (13 + i) ≠ 11 ∧ g (25 + i) ≤ g 3 then zcal g i ||| 2 ^ g (13 + i) else zcal g i
theorem zcal_lt {g : zH} (w : zWF g) : ∀ i, i ≤ g 0 → zcal g i < 512
  | 0, _ => by show 0 < 512; decide
  | i + 1, h => by
    have ih := zcal_lt w i (by omega)
    obtain ⟨c1, c2, c3, c4, c5⟩ := w.2.2.2.2.2.2.2.2 i (by omega)
    have w1 := w.2.2.1
    have p9 : ∀ k, k < 9 → 2 ^ k < 2 ^ 9 := fun k hk => Nat.pow_lt_pow_right (by omega) hk
    have ih' : zcal g i < 2 ^ 9 := ih
    show _ < 2 ^ 9
    unfold zcal
    split
    · exact Nat.or_lt_two_pow ih' (p9 _ (by omega))
    · split
      · exact Nat.or_lt_two_pow ih' (p9 _ (by omega))
      · exact ih'
def zdel (a f : Nat) : Nat := if a / 2 ^ f % 2 = 1 then a - 2 ^ f else a
def zcalled (g : zH) : Nat := zdel (zcal g (g 0)) (g 4)
theorem zdel_t : ∀ f, f < 9 → ∀ a, a < 512 → nI a &&& (nI 1 <<< (nI f &&& 31) ^^^ -(nI 1)) = nI (zdel a f) := by decide +kernel
/-- the car goes -/
def zway (g : zH) : Nat := if g 5 = 1 then (if zcalled g / 2 ^ g 4 = 0 then 0 else 1) else (if zcalled g % 2 ^ g 4 = 0 then 1 else 0)
def zmove (g : zH) : zH := if zcalled g = 0 then g else va_up (va_up g 5 (zway g)) 4 (if zway g = 1 then g 4 + 1 else g 4 - 1)
theorem zdel_lt {a f : Nat} (h : a < 512) : zdel a f < 512 := by
  unfold zdel
  generalize 2 ^ f = z
  split <;> omega
theorem zcalled_lt {g : zH} (w : zWF g) : zcalled g < 512 := zdel_lt (zcal_lt w _ (Nat.le_refl _))
/-- a minute -/
def zpass (ord : Nat → Nat) (g : zH) : zH :=
  let g1 := zlets g (g 0)
  let g2 := ztakes ord g1 (g 0)
  let g3 := zmove g2
  let g4 := zages (zcalled g2 ≠ 0) g3 (g 0)
  va_up g4 6 (g4 6 + 1)
/-- a minute in which the rope sticks -/
def zstuck (g : zH) : zH := va_up (zages False g (g 0)) 6 (g 6 + 1)
