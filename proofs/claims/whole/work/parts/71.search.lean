/-! ranks: the search for an order, in numbers -/
def zud (o : Nat → Nat) : Nat → Nat → Bool
  | 0, _ => false
  | k + 1, d => zud o k d || decide (o k = d)
def zfld {α : Type} (f : Nat → α → α) : Nat → α → α
  | 0, S => S
  | i + 1, S => f i (zfld f i S)
def zwS (C : (Nat → Nat) → Nat) (N : Nat) (o : Nat → Nat) (S : Nat × (Nat → Int32)) : Nat × (Nat → Int32) := if C o < S.1 then (C o, fun j => if j < N then nI (o j) else nI 0) else S
def zsr (C : (Nat → Nat) → Nat) (N : Nat) (nd : (Nat → Nat) → Nat → Nat → Bool) : Nat → (Nat → Nat) → Nat → Nat × (Nat → Int32) → Nat × (Nat → Int32)
  | 0, o, _, S => zwS C N o S
  | m + 1, o, dep, S => zfld (fun d S => if zud o dep d = true ∨ nd o dep d = true then S else zsr C N nd m (va_up o dep d) (dep + 1) S) N S
theorem zud_iff {o : Nat → Nat} {d : Nat} : ∀ k, zud o k d = true ↔ ∃ j, j < k ∧ o j = d
  | 0 => by constructor
            · intro h; cases h
            · rintro ⟨j, hj, _⟩; omega
  | k + 1 => by
    show (zud o k d || decide (o k = d)) = true ↔ _
    rw [Bool.or_eq_true, zud_iff k, decide_eq_true_eq]
    constructor
    · rintro (⟨j, hj, e⟩ | e)
      · exact ⟨j, by omega, e⟩
      · exact ⟨k, by omega, e⟩
    · rintro ⟨j, hj, e⟩
      by_cases z : j = k
      · subst z; exact Or.inr e
      · exact Or.inl ⟨j, by omega, e⟩
theorem zud_ext {o o' : Nat → Nat} {d : Nat} : ∀ k, (∀ j, j < k → o j = o' j) → zud o k d = zud o' k d
  | 0, _ => rfl
  | k + 1, h => by
    show (zud o k d || decide (o k = d)) = (zud o' k d || decide (o' k = d))
    rw [zud_ext k (fun j hj => h j (by omega)), h k (by omega)]
/-- a full order that begins with o -/
def zcmp2 (N : Nat) (o : Nat → Nat) (dep : Nat) (t : Nat → Nat) : Prop := (∀ j, j < dep → t j = o j) ∧ (∀ j, j < N → t j < N) ∧ ∀ i j, i < N → j < N → t i = t j → i = j
def zvd (N : Nat) (o : Nat → Nat) (dep : Nat) : Prop := (∀ j, j < dep → o j < N) ∧ ∀ i j, i < dep → j < dep → o i = o j → i = j
theorem zvd.up {N : Nat} {o : Nat → Nat} {dep d : Nat} (h : zvd N o dep) (hd : d < N) (hu : ¬ zud o dep d = true) : zvd N (va_up o dep d) (dep + 1) := by
  have hn : ∀ j, j < dep → o j ≠ d := fun j hj e => hu ((zud_iff dep).mpr ⟨j, hj, e⟩)
  refine ⟨fun j hj => ?_, fun i j hi hj e => ?_⟩
  · by_cases z : j = dep
    · subst z; rw [zup_eq]; exact hd
    · rw [zup_ne z]; exact h.1 j (by omega)
  · by_cases z : i = dep
    · by_cases y : j = dep
      · omega
      · rw [z, zup_eq, zup_ne y] at e
        exact absurd e.symm (hn j (by omega))
    · by_cases y : j = dep
      · rw [y, zup_eq, zup_ne z] at e
        exact absurd e (hn i (by omega))
      · rw [zup_ne z, zup_ne y] at e
        exact h.2 i j (by omega) (by omega) e
section SR
variable {C : (Nat → Nat) → Nat} {N : Nat} {nd : (Nat → Nat) → Nat → Nat → Bool}
theorem zfld_mono {f : Nat → Nat × (Nat → Int32) → Nat × (Nat → Int32)} (h : ∀ i S, (f i S).1 ≤ S.1) : ∀ n S, (zfld f n S).1 ≤ S.1
  | 0, S => Nat.le_refl _
  | n + 1, S => Nat.le_trans (h n _) (zfld_mono h n S)
theorem zfld_le {f : Nat → Nat × (Nat → Int32) → Nat × (Nat → Int32)} (h : ∀ i S, (f i S).1 ≤ S.1) {b i : Nat} (hb : ∀ S, (f i S).1 ≤ b) : ∀ n S, i < n → (zfld f n S).1 ≤ b
  | 0, S, hi => by omega
  | n + 1, S, hi => by
    show (f n (zfld f n S)).1 ≤ b
    by_cases z : i = n
    · subst z; exact hb _
    · exact Nat.le_trans (h n _) (zfld_le h hb n S (by omega))
theorem zfld_id {f : Nat → Nat × (Nat → Int32) → Nat × (Nat → Int32)} {S : Nat × (Nat → Int32)} : ∀ n, (∀ i, i < n → f i S = S) → zfld f n S = S
  | 0, _ => rfl
  | n + 1, h => by
    show f n (zfld f n S) = S
    rw [zfld_id n (fun i hi => h i (by omega))]; exact h n (by omega)
theorem zfld_ext {f f' : Nat → Nat × (Nat → Int32) → Nat × (Nat → Int32)} {S : Nat × (Nat → Int32)} : ∀ n, (∀ i S, i < n → f i S = f' i S) → zfld f n S = zfld f' n S
  | 0, _ => rfl
  | n + 1, h => by
    show f n (zfld f n S) = f' n (zfld f' n S)
    rw [zfld_ext n (fun i S hi => h i S (by omega))]; exact h n _ (by omega)
theorem zsr_mono : ∀ m o dep S, (zsr C N nd m o dep S).1 ≤ S.1
  | 0, o, dep, S => by
    show (zwS C N o S).1 ≤ S.1
    unfold zwS
    split
    · rename_i c; exact Nat.le_of_lt c
    · exact Nat.le_refl _
  | m + 1, o, dep, S => by
    refine zfld_mono (fun d S => ?_) N S
    show (if zud o dep d = true ∨ nd o dep d = true then S else zsr C N nd m (va_up o dep d) (dep + 1) S).1 ≤ S.1
    split
    · exact Nat.le_refl _
    · exact zsr_mono m _ _ _
theorem zsr_ext (Cx : ∀ o o', (∀ j, j < N → o j = o' j) → C o = C o') (ndx : ∀ o o' dep d, (∀ j, j < dep → o j = o' j) → nd o dep d = nd o' dep d) : ∀ m o o' dep S, dep + m = N → (∀ j, j < dep → o j = o' j) → zsr C N nd m o dep S = zsr C N nd m o' dep S
  | 0, o, o', dep, S, hm, h => by
    show zwS C N o S = zwS C N o' S
    unfold zwS
    rw [Cx o o' (fun j hj => h j (by omega))]
    rw [show (fun j => if j < N then nI (o j) else nI 0) = (fun j => if j < N then nI (o' j) else nI 0) from funext (fun j => by
      by_cases z : j < N
      · rw [if_pos z, if_pos z, h j (by omega)]
      · rw [if_neg z, if_neg z])]
  | m + 1, o, o', dep, S, hm, h => by
    refine zfld_ext N (fun d S _ => ?_)
    show (if zud o dep d = true ∨ nd o dep d = true then S else zsr C N nd m (va_up o dep d) (dep + 1) S) = (if zud o' dep d = true ∨ nd o' dep d = true then S else zsr C N nd m (va_up o' dep d) (dep + 1) S)
    rw [zud_ext dep h, ndx o o' dep d h, zsr_ext Cx ndx m (va_up o dep d) (va_up o' dep d) (dep + 1) S (by omega) (fun j hj => by
      by_cases z : j = dep
      · subst z; rw [zup_eq, zup_eq]
      · rw [zup_ne z, zup_ne z]; exact h j (by omega))]
/-- all are tried: what comes of it is at most what any full order costs -/
theorem zsr_le (Cx : ∀ o o', (∀ j, j < N → o j = o' j) → C o = C o') : ∀ m o dep S t, dep + m = N → zcmp2 N o dep t → (zsr C N (fun _ _ _ => false) m o dep S).1 ≤ C t
  | 0, o, dep, S, t, hm, h => by
    show (zwS C N o S).1 ≤ C t
    rw [← Cx o t (fun j hj => (h.1 j (by omega)).symm)]
    unfold zwS
    split
    · exact Nat.le_refl _
    · omega
  | m + 1, o, dep, S, t, hm, h => by
    have hu : ¬ zud o dep (t dep) = true := fun z => by
      obtain ⟨j, hj, e⟩ := (zud_iff dep).mp z
      rw [← h.1 j hj] at e
      have := h.2.2 j dep (by omega) (by omega) e
      omega
    refine zfld_le (i := t dep) (fun d S => ?_) (fun S => ?_) N S (h.2.1 dep (by omega))
    · show (if zud o dep d = true ∨ (false : Bool) = true then S else zsr C N (fun _ _ _ => false) m (va_up o dep d) (dep + 1) S).1 ≤ S.1
      split
      · exact Nat.le_refl _
      · exact zsr_mono m _ _ _
    · show (if zud o dep (t dep) = true ∨ (false : Bool) = true then S else zsr C N (fun _ _ _ => false) m (va_up o dep (t dep)) (dep + 1) S).1 ≤ C t
      rw [if_neg (fun z => z.elim hu (fun y => by cases y))]
      exact zsr_le Cx m _ (dep + 1) S t (by omega) ⟨fun j hj => by
        by_cases z : j = dep
        · subst z; rw [zup_eq]
        · rw [zup_ne z]; exact h.1 j (by omega), h.2⟩
/-- nothing better: nothing changes -/
theorem zsr_same : ∀ m o dep S, dep + m = N → zvd N o dep → (∀ t, zcmp2 N o dep t → S.1 ≤ C t) → zsr C N (fun _ _ _ => false) m o dep S = S
  | 0, o, dep, S, hm, hv, h => by
    show zwS C N o S = S
    unfold zwS
    rw [if_neg]
    have := h o ⟨fun _ _ => rfl, fun j hj => hv.1 j (by omega), fun i j hi hj e => hv.2 i j (by omega) (by omega) e⟩
    omega
  | m + 1, o, dep, S, hm, hv, h => by
    refine zfld_id N (fun d hd => ?_)
    show (if zud o dep d = true ∨ (false : Bool) = true then S else zsr C N (fun _ _ _ => false) m (va_up o dep d) (dep + 1) S) = S
    split
    · rfl
    · rename_i z
      refine zsr_same m _ (dep + 1) S (by omega) (hv.up hd (fun y => z (Or.inl y))) (fun t ht => h t ⟨fun j hj => ?_, ht.2⟩)
      rw [ht.1 j (by omega), zup_ne (by omega)]
def zswp (t : Nat → Nat) (i : Nat) : Nat → Nat := va_up (va_up t (i - 1) (t i)) i (t (i - 1))
/-- the needless ones may be left out -/
theorem zsr_eq (Cx : ∀ o o', (∀ j, j < N → o j = o' j) → C o = C o') (ndx : ∀ o o' dep d, (∀ j, j < dep → o j = o' j) → nd o dep d = nd o' dep d) (nd0 : ∀ o d, nd o 0 d = false) (ndlt : ∀ o dep d, nd o dep d = true → d < o (dep - 1))
    (hsw : ∀ t i, 0 < i → i < N → (∀ j, j < N → t j < N) → nd t i (t i) = true → C (zswp t i) = C t) : ∀ m o dep S, dep + m = N → zvd N o dep → (0 < dep → ∀ y, y < o (dep - 1) → ¬ zud o (dep - 1) y = true → ∀ t, zcmp2 N (va_up o (dep - 1) y) dep t → S.1 ≤ C t) → zsr C N (fun _ _ _ => false) m o dep S = zsr C N nd m o dep S
  | 0, o, dep, S, _, _, _ => rfl
  | m + 1, o, dep, S, hm, hv, hI => by
    have mono : ∀ i S, ((fun d S => if zud o dep d = true ∨ (false : Bool) = true then S else zsr C N (fun _ _ _ => false) m (va_up o dep d) (dep + 1) S) i S).1 ≤ S.1 := fun d S => by
      show (if zud o dep d = true ∨ (false : Bool) = true then S else zsr C N (fun _ _ _ => false) m (va_up o dep d) (dep + 1) S).1 ≤ S.1
      split
      · exact Nat.le_refl _
      · exact zsr_mono m _ _ _
    have key : ∀ i, i ≤ N → zfld (fun d S => if zud o dep d = true ∨ (false : Bool) = true then S else zsr C N (fun _ _ _ => false) m (va_up o dep d) (dep + 1) S) i S = zfld (fun d S => if zud o dep d = true ∨ nd o dep d = true then S else zsr C N nd m (va_up o dep d) (dep + 1) S) i S := by
      intro i
      induction i with
      | zero => intro _; rfl
      | succ i ih =>
        intro hi
        have ih := ih (by omega)
        have hmo := zfld_mono mono i S
        have hlow : ∀ y, y < i → ¬ zud o dep y = true → ∀ t, zcmp2 N (va_up o dep y) (dep + 1) t → (zfld (fun d S => if zud o dep d = true ∨ (false : Bool) = true then S else zsr C N (fun _ _ _ => false) m (va_up o dep d) (dep + 1) S) i S).1 ≤ C t := fun y hy hu t ht => zfld_le mono (i := y) (fun S => by
          show (if zud o dep y = true ∨ (false : Bool) = true then S else zsr C N (fun _ _ _ => false) m (va_up o dep y) (dep + 1) S).1 ≤ C t
          rw [if_neg (fun z => z.elim hu (fun w => by cases w))]
          exact zsr_le Cx m _ (dep + 1) S t (by omega) ht) i S hy
        show (fun d S => if zud o dep d = true ∨ (false : Bool) = true then S else zsr C N (fun _ _ _ => false) m (va_up o dep d) (dep + 1) S) i (zfld _ i S) = (fun d S => if zud o dep d = true ∨ nd o dep d = true then S else zsr C N nd m (va_up o dep d) (dep + 1) S) i (zfld _ i S)
        rw [← ih]
        generalize zfld (fun d S => if zud o dep d = true ∨ (false : Bool) = true then S else zsr C N (fun _ _ _ => false) m (va_up o dep d) (dep + 1) S) i S = Si at hmo hlow ⊢
        show (if zud o dep i = true ∨ (false : Bool) = true then Si else zsr C N (fun _ _ _ => false) m (va_up o dep i) (dep + 1) Si) = (if zud o dep i = true ∨ nd o dep i = true then Si else zsr C N nd m (va_up o dep i) (dep + 1) Si)
        by_cases hu : zud o dep i = true
        · rw [if_pos (Or.inl hu), if_pos (Or.inl hu)]
        · rw [if_neg (fun z => z.elim hu (fun w => by cases w))]
          have hv' := hv.up (show i < N by omega) hu
          by_cases hn : nd o dep i = true
          · rw [if_pos (Or.inr hn)]
            have hd0 : 0 < dep := by
              by_cases z : dep = 0
              · rw [z, nd0] at hn; cases hn
              · omega
            refine zsr_same m _ (dep + 1) Si (by omega) hv' (fun t ht => ?_)
            have t1 : t dep = i := by rw [ht.1 dep (by omega), zup_eq]
            have t2 : ∀ j, j < dep → t j = o j := fun j hj => by rw [ht.1 j (by omega), zup_ne (by omega)]
            have hnt : nd t dep (t dep) = true := by rw [t1, ndx t o dep i t2]; exact hn
            rw [← hsw t dep hd0 (by omega) ht.2.1 hnt]
            refine Nat.le_trans hmo (hI hd0 i (by have := ndlt o dep i hn; exact this) (fun z => hu ?_) (zswp t dep) ⟨fun j hj => ?_, fun j hj => ?_, fun x y hx hy e => ?_⟩)
            · obtain ⟨j, hj, e⟩ := (zud_iff (dep - 1)).mp z
              exact (zud_iff dep).mpr ⟨j, by omega, e⟩
            · unfold zswp
              rw [zup_ne (by omega)]
              by_cases z : j = dep - 1
              · rw [z, zup_eq, zup_eq, t1]
              · rw [zup_ne z, zup_ne z]; exact t2 j hj
            · unfold zswp
              by_cases z : j = dep
              · subst z; rw [zup_eq]; exact ht.2.1 _ (by omega)
              · rw [zup_ne z]
                by_cases y : j = dep - 1
                · rw [y, zup_eq]; exact ht.2.1 _ (by omega)
                · rw [zup_ne y]; exact ht.2.1 _ hj
            · have inj := ht.2.2
              have ev : ∀ x, zswp t dep x = t (if x = dep then dep - 1 else if x = dep - 1 then dep else x) := fun x => by
                unfold zswp
                by_cases z : x = dep
                · subst z; rw [zup_eq, if_pos rfl]
                · rw [zup_ne z, if_neg z]
                  by_cases w : x = dep - 1
                  · rw [w, zup_eq, if_pos rfl]
                  · rw [zup_ne w, if_neg w]
              rw [ev x, ev y] at e
              have := inj _ _ (by split <;> (try split) <;> omega) (by split <;> (try split) <;> omega) e
              split at this <;> split at this <;> (try split at this) <;> (try split at this) <;> omega
          · rw [if_neg (fun z => z.elim hu hn)]
            refine zsr_eq Cx ndx nd0 ndlt hsw m _ (dep + 1) Si (by omega) hv' (fun _ y hy hyu t ht => ?_)
            rw [show dep + 1 - 1 = dep from rfl, zup_eq] at hy
            rw [show dep + 1 - 1 = dep from rfl] at hyu ht
            refine hlow y hy (fun z => hyu ?_) t ⟨fun j hj => ?_, ht.2⟩
            · rw [zud_ext (o' := o) dep (fun j hj => zup_ne (by omega))]; exact z
            · rw [ht.1 j hj]
              by_cases z : j = dep
              · subst z; rw [zup_eq, zup_eq]
              · rw [zup_ne z, zup_ne z, zup_ne z]
    exact key N (Nat.le_refl _)
end SR
