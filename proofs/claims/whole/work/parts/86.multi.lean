/-! new int[8][40] -/
theorem zD_push {A : Nat → Prop} {ws : va_W} {a : Nat} {e : va_E} (hD : va_D A ws) (hne : ∀ (k : Nat) (q : Nat × va_E), ws[k]? = some q → q.1 ≠ a) (hA : A a) : va_D A (ws ++ [(a, e)]) := by
  have key : ∀ (k : Nat) (q : Nat × va_E), (ws ++ [(a, e)])[k]? = some q → (ws[k]? = some q ∧ q.1 ≠ a) ∨ (k = ws.length ∧ q.1 = a) := by
    intro k q hk
    by_cases hl : k < ws.length
    · rw [List.getElem?_append_left hl] at hk
      exact Or.inl ⟨hk, hne k q hk⟩
    · rw [List.getElem?_append_right (by omega)] at hk
      have hz : k - ws.length < 1 := (List.getElem?_eq_some_iff.mp hk).1
      rw [show k - ws.length = 0 by omega] at hk
      cases hk
      exact Or.inr ⟨by omega, rfl⟩
  refine ⟨fun i j p q hi hj e2 => ?_, fun k q hk => ?_⟩
  · rcases key i p hi with ⟨h1, h2⟩ | ⟨h1, h2⟩ <;> rcases key j q hj with ⟨h3, h4⟩ | ⟨h3, h4⟩
    · exact hD.1 i j p q h1 h3 e2
    · exact absurd (e2.trans h4) h2
    · exact absurd (e2.symm.trans h2) h4
    · omega
  · rcases key k q hk with ⟨h1, -⟩ | ⟨-, h1⟩
    · exact hD.2 k q h1
    · rw [h1]; exact hA
section ZML
variable {X : Nat} {A : Nat → Prop} {D : va_G} {κ κ' : Nat → ClassId} {φ : Nat → Nat} {mem : zMem} {lk lk' : zLk} {L : List Nat} {s : State} {H H1 : Heap}
theorem zSm.kap (h : zSm X A D κ φ mem lk L s H) (hq : ∀ q : Nat, q < H.size → H1[q]? = H[q]?) : zSm X A D κ φ mem lk L s H1 :=
  ⟨h.1.kept (fun k x hx => hq x.1 ((h.1 k x hx).lt)), h.2⟩
theorem zSm.pushL (hX : X ≤ 3072) (h : zSm X A D κ φ mem lk L s H) {o q : Nat} {ce : va_E} (ho : o ∉ L) (hko : kd o ≤ 12)
    (hκ : ∀ o' ∈ L, 9 ≤ kd o' → κ' (kd o') = κ (kd o')) (hty : ∀ ty, zaty (kd o) = some ty → ArrOfT s (κ' (kd o)) ty ∧ va_RA s (κ' (kd o)) ty)
    (hlk : ∀ o' ∈ L, ∀ j, zhas X o' j → lk' (o' + j) = lk (o' + j)) (hlo : ∀ j, zhas X o j → ∀ t, lk' (o + j) = some t → t ∈ L)
    (hce : zcell X κ' (va_up φ o q) (zclr o mem) lk' o = ce) (hP : va_P D vwCl (zW X κ φ mem lk L ++ [(q, ce)]) H1) (hD : va_D A (zW X κ φ mem lk L ++ [(q, ce)])) :
    zSm X A D κ' (va_up φ o q) (zclr o mem) lk' (L ++ [o]) s H1 := by
  have hne : ∀ o' ∈ L, o' ≠ o := fun o' h1 e => ho (by rw [← e]; exact h1)
  have e := zW_push (X := X) (κ := κ) (κ' := κ') (φ := φ) (φ' := va_up φ o q) (mem := mem) (mem' := zclr o mem) (lk := lk) (lk' := lk') (L := L) (o := o) (q := q) (if_pos rfl) hce (fun o' ho' => by
    have h1 : va_up φ o q o' = φ o' := if_neg (hne o' ho')
    rw [h1]
    rw [zcell_congr (κ := κ) (φ := φ) (mem := mem) (lk := lk) (h.2.2.2.2.1 o' ho') (fun j hj => zclr_out hX mem hj (hne o' ho')) (fun j hj => ?_) (hκ o' ho')]
    rw [hlk o' ho' j hj]
    cases hl : lk (o' + j) with
    | none => rfl
    | some t =>
      show some (va_up φ o q t) = some (φ t)
      have ht := h.2.2.2.2.2 o' ho' j hj t hl
      exact congrArg some (if_neg (hne t ht)))
  rw [e] at hP hD
  refine ⟨hP, hD, h.2.2.1, fun o' ho' ty hy => ?_, fun o' ho' => ?_, fun o' ho' j hj t ht => ?_⟩
  · rcases List.mem_append.mp ho' with h1 | h1
    · have := h.2.2.2.1 o' h1 ty hy
      have h9 : 9 ≤ kd o' := by
        rcases Nat.lt_or_ge (kd o') 9 with g | g
        · exfalso
          rcases (show kd o' = 0 ∨ kd o' = 1 ∨ kd o' = 2 ∨ kd o' = 3 ∨ kd o' = 4 ∨ kd o' = 5 ∨ kd o' = 6 ∨ kd o' = 7 ∨ kd o' = 8 by omega) with g | g | g | g | g | g | g | g | g <;> rw [g] at hy <;> cases hy
        · exact g
      rw [hκ o' h1 h9]; exact this
    · rw [List.mem_singleton.mp h1] at hy ⊢
      exact hty ty hy
  · rcases List.mem_append.mp ho' with h1 | h1
    · exact h.2.2.2.2.1 o' h1
    · rw [List.mem_singleton.mp h1]; exact hko
  · rcases List.mem_append.mp ho' with h1 | h1
    · rw [hlk o' h1 j hj] at ht
      exact List.mem_append_left _ (h.2.2.2.2.2 o' h1 j hj t ht)
    · have e2 := List.mem_singleton.mp h1
      subst e2
      exact List.mem_append_left _ (hlo j hj t ht)
theorem zSm.apart (h : zSm X A D κ φ mem lk L s H) {q : Nat} (hq : ∀ o ∈ L, φ o ≠ q) : ∀ (k : Nat) (x : Nat × va_E), (zW X κ φ mem lk L)[k]? = some x → x.1 ≠ q := fun k x hx => by
  obtain ⟨o, h1, h2⟩ := zW_of hx
  rw [h2]; exact hq o (List.mem_of_getElem? h1)
theorem zSm.lt (h : zSm X A D κ φ mem lk L s H) : ∀ o ∈ L, φ o < H.size := fun o ho => by
  obtain ⟨k, hk⟩ := List.mem_iff_getElem?.mp ho
  exact (h.1 k _ (zW_get hk)).lt
theorem zSm.pushI (hX : X ≤ 3072) (h : zSm X A D κ φ mem lk L s H) {o q : Nat} {cI : ClassId} (ho : o ∉ L) (hko : kd o = 9) (hr : ArrOfT s cI .int ∧ va_RA s cI .int)
    (hcell : H[q]? = some (arrV cI (ln X o) (fun _ => .int 0))) (hA : A q) (hq : ∀ o' ∈ L, φ o' ≠ q) : ∃ κ', zSm X A D κ' (va_up φ o q) (zclr o mem) (zclk o lk) (L ++ [o]) s H := by
  have hup : va_up κ 9 cI 9 = cI := if_pos rfl
  refine ⟨va_up κ 9 cI, h.push (ce := .inl (cI, ln X o, .inl (fun _ => 0))) hX ho (by omega) (zκ h rfl hr.2) (fun ty hy => ?_) ?_ (h.1.app (fun k x hx => ?_)) (zD_push h.2.1 (h.apart hq) hA)⟩
  · rw [hko] at hy ⊢; cases hy; rw [hup]; exact hr
  · rw [zcell_int hko (Or.inl rfl), hup]
    have : (fun i => if i < ln X o then zclr o mem (o + i) else 0) = fun _ => 0 := by
      funext i
      by_cases hi : i < ln X o
      · rw [if_pos hi, zclr_in hX mem (Or.inr ⟨by omega, by omega, hi⟩)]
      · rw [if_neg hi]
    rw [this]
  · have hz : k < 1 := (List.getElem?_eq_some_iff.mp hx).1
    rw [show k = 0 by omega] at hx
    cases hx
    show H[q]? = some (vp_cell _ _)
    rw [vp_cell_i]
    exact hcell
end ZML
def z8m : Nat → zMem → zMem
  | 0, mem => mem
  | n + 1, mem => zclr (200 + 40 * n) (z8m n mem)
def z8k : Nat → zLk → zLk
  | 0, lk => lk
  | n + 1, lk => zclk (200 + 40 * n) (z8k n lk)
def z8L : Nat → List Nat → List Nat
  | 0, L => L
  | n + 1, L => z8L n L ++ [200 + 40 * n]
/-- the links behind it -/
def z9k (lk : zLk) : zLk := fun x => if mo x = 150 then some (200 + 40 * (x - 150)) else z8k 8 lk x
theorem kd8 (n : Nat) (h : n < 8) : kd (200 + 40 * n) = 9 := by
  rcases (show n = 0 ∨ n = 1 ∨ n = 2 ∨ n = 3 ∨ n = 4 ∨ n = 5 ∨ n = 6 ∨ n = 7 by omega) with rfl | rfl | rfl | rfl | rfl | rfl | rfl | rfl <;> rfl
theorem ln8 (X n : Nat) (h : n < 8) : ln X (200 + 40 * n) = 40 := by
  rcases (show n = 0 ∨ n = 1 ∨ n = 2 ∨ n = 3 ∨ n = 4 ∨ n = 5 ∨ n = 6 ∨ n = 7 by omega) with rfl | rfl | rfl | rfl | rfl | rfl | rfl | rfl <;> rfl
theorem z8L_mem (L : List Nat) (o : Nat) : ∀ n, o ∈ z8L n L ↔ o ∈ L ∨ ∃ j, j < n ∧ o = 200 + 40 * j
  | 0 => ⟨fun h => Or.inl h, fun h => h.elim id (fun ⟨j, hj, _⟩ => absurd hj (Nat.not_lt_zero _))⟩
  | n + 1 => by
    show o ∈ z8L n L ++ [200 + 40 * n] ↔ _
    rw [List.mem_append, List.mem_singleton, z8L_mem L o n]
    constructor
    · rintro ((h | ⟨j, hj, e⟩) | h)
      · exact Or.inl h
      · exact Or.inr ⟨j, by omega, e⟩
      · exact Or.inr ⟨n, by omega, h⟩
    · rintro (h | ⟨j, hj, e⟩)
      · exact Or.inl (Or.inl h)
      · by_cases q : j = n
        · subst q; exact Or.inr e
        · exact Or.inl (Or.inr ⟨j, by omega, e⟩)
theorem z8L_len (L : List Nat) : ∀ n, (z8L n L).length = L.length + n
  | 0 => rfl
  | n + 1 => by
    show (z8L n L ++ [200 + 40 * n]).length = _
    rw [List.length_append, z8L_len L n]; rfl
theorem zoutC (c : ClassId) (N h0 : Nat) : ∀ i, Jvm.Free.Multi.outerC c N h0 i = arrV c N (fun j => if j < i then .ref (h0 + 1 + j) else .null)
  | 0 => by
    show ({ cls := c, slots := Array.replicate N .null, vm := .none } : Cell) = _
    rw [arrV_new]
    congr 1
  | i + 1 => by
    show (Jvm.Free.Multi.outerC c N h0 i).setSlot i (.ref (h0 + 1 + i)) = _
    rw [zoutC c N h0 i, arrV_store]
    congr 1
    funext j
    unfold updV
    by_cases e : j = i
    · rw [if_pos e, if_pos (by omega), e]
    · rw [if_neg e]
      show (if j < i then Value.ref (h0 + 1 + j) else Value.null) = _
      by_cases e2 : j < i
      · rw [if_pos e2, if_pos (by omega)]
      · rw [if_neg e2, if_neg (by omega)]
theorem zinnC (c : ClassId) (M : Nat) (dv : Value) : Jvm.Free.Multi.innerC c M dv = arrV c M (fun _ => dv) := arrV_new c M dv
section ZMM
variable {X : Nat} {A : Nat → Prop} {D : va_G} {κ : Nat → ClassId} {φ : Nat → Nat} {mem : zMem} {lk : zLk} {L : List Nat} {s : State} {H : Heap}
theorem zSm.push8 (hX : X ≤ 3072) (h : zSm X A D κ φ mem lk L s H) {b : Nat} {cI : ClassId} (hi : ∀ j, j < 8 → 200 + 40 * j ∉ L) (hr : ArrOfT s cI .int ∧ va_RA s cI .int)
    (hcell : ∀ j, j < 8 → H[b + j]? = some (arrV cI 40 (fun _ => .int 0))) (hA : ∀ j, A (b + j)) (hq : ∀ o' ∈ L, φ o' < b) : ∀ n, n ≤ 8 →
    ∃ κ' φ', zSm X A D κ' φ' (z8m n mem) (z8k n lk) (z8L n L) s H ∧ (∀ j, j < n → φ' (200 + 40 * j) = b + j) ∧ ∀ o, (∀ j, j < n → o ≠ 200 + 40 * j) → φ' o = φ o
  | 0, _ => ⟨κ, φ, h, fun j hj => absurd hj (Nat.not_lt_zero _), fun _ _ => rfl⟩
  | n + 1, hn => by
    obtain ⟨κ1, φ1, h1, h2, h3⟩ := zSm.push8 hX h hi hr hcell hA hq n (by omega)
    have hno : 200 + 40 * n ∉ z8L n L := fun q => by
      rcases (z8L_mem L _ n).mp q with q | ⟨j, hj, e⟩
      · exact hi n (by omega) q
      · omega
    obtain ⟨κ2, h4⟩ := h1.pushI hX (o := 200 + 40 * n) (q := b + n) hno (kd8 n (by omega)) hr (by rw [ln8 X n (by omega)]; exact hcell n (by omega)) (hA n) (fun o ho e => by
      rcases (z8L_mem L _ n).mp ho with q | ⟨j, hj, e2⟩
      · by_cases g : ∀ j, j < n → o ≠ 200 + 40 * j
        · have := hq o q
          rw [h3 o g] at e
          omega
        · have : ∃ j, j < n ∧ o = 200 + 40 * j := by
            apply Classical.byContradiction
            intro g2
            exact g (fun j hj e3 => g2 ⟨j, hj, e3⟩)
          obtain ⟨j, hj, e3⟩ := this
          exact hi j (by omega) (by rw [← e3]; exact q)
      · rw [e2, h2 j hj] at e
        omega)
    refine ⟨κ2, _, h4, fun j hj => ?_, fun o ho => ?_⟩
    · by_cases e : j = n
      · subst e; exact if_pos rfl
      · rw [show va_up φ1 (200 + 40 * n) (b + n) (200 + 40 * j) = φ1 (200 + 40 * j) from if_neg (by omega)]
        exact h2 j (by omega)
    · rw [show va_up φ1 (200 + 40 * n) (b + n) o = φ1 o from if_neg (ho n (by omega))]
      exact h3 o (fun j hj => ho j (by omega))
end ZMM
theorem mo150 (j : Nat) (h : j < 8) : mo (150 + j) = 150 := mo_has (X := 0) (by omega) (Or.inr ⟨by decide, by decide, h⟩)
theorem z8m_out (X : Nat) (hX : X ≤ 3072) (mem : zMem) {o j : Nat} (h : zhas X o j) (hne : ∀ i, i < 8 → o ≠ 200 + 40 * i) : ∀ n, n ≤ 8 → z8m n mem (o + j) = mem (o + j)
  | 0, _ => rfl
  | n + 1, hn => (zclr_out hX _ h (hne n (by omega))).trans (z8m_out X hX mem h hne n (by omega))
section ZMU
variable {X d y pc : Nat} {ls st : List Value} {mem : zMem} {lk : zLk} {L : List Nat} {lkf : zLk} {Lf : List Nat} {Q : Option Value → zMem → Prop}
theorem zE_multi {idx : Nat} (hd : decode (zmB y) pc = .ok (.multianewarray idx 2, 4)) (hw1 : Cond.classLink (zmO y) idx ("[" ++ (FieldType.array .int).toString) ∈ zgd) (hw3 : Cond.arrayClass .int ∈ zgd) (ho : 150 ∉ L) (hi : ∀ j, j < 8 → 200 + 40 * j ∉ L) (hlen : L.length + 9 ≤ Lf.length)
    (h : zE X d y (pc + 4) ls (.ref 150 :: st) (zclr 150 (z8m 8 mem)) (z9k lk) (z8L 8 L ++ [150]) lkf Lf Q) : zE X d y pc ls (.int (nI 40) :: .int (nI 8) :: st) mem lk L lkf Lf Q := by
  intro p l e R s m args below meth c H locs cells slots A D κ φ Z la hX hC hL hS hXt hV hA i1 i2 h3 h4 h5 K T hT Xs
  have hgd := hC.2.2.2.2.2.2.2.2.1
  have e8 : (nI 8).toNatClampNeg = 8 := nI_clamp (by omega)
  have e40 : (nI 40).toNatClampNeg = 40 := nI_clamp (by omega)
  obtain ⟨vm₁, cA, comp, -, hfA, hfC, hO, hI, X1, step⟩ := Xs.multianewarray2F hC.2.1 (own := zmO y) (index := idx) (ty := .int) hC.2.2.2.2.2.1 (hgd _ hw1) (hC.2.2.2.2.2.2.2.2.2.2.1.2.use) (hgd _ hw3)
    (g := F0 m pc la ((Value.int (nI 40) :: .int (nI 8) :: st).map (ztr φ))) rfl (by rw [hC.2.2.1]; exact hd) (n := nI 8) (k := nI 40) (rest := st.map (ztr φ)) rfl (nI_pos (by omega)) (nI_pos (by omega))
    (by rw [e8]; omega) (by rw [e40]; show 40 * 4 ≤ _; omega) (by rw [e40]; omega) rfl rfl (by rw [e8]; omega) (by rw [e8, e40]; omega)
  rw [e8, e40] at X1 step
  subst hT
  obtain ⟨f1, f2, f3, f4⟩ := Jvm.Free.Multi.fill_facts (T.setVm vm₁) cA comp 8 40 (defaultValue .int) 8
  have fo := fun (a : Addr) (ha : a < T.heap.size) => Jvm.Free.Multi.fill_old (T.setVm vm₁) cA comp 8 40 (defaultValue .int) (a := a) ha 8
  have fi := fun (j : Nat) (hj : j < 8) => Jvm.Free.Multi.fill_inner (T.setVm vm₁) cA comp 8 40 (defaultValue .int) 8 j hj
  change _ = T.heap.size + 1 + 8 at f1
  change (_ : Heap)[T.heap.size]? = some (Jvm.Free.Multi.outerC cA 8 T.heap.size 8) at f2
  rw [zoutC] at f2
  have fi2 : ∀ j, j < 8 → (Jvm.Free.Multi.fill (T.setVm vm₁) cA comp 8 40 (defaultValue .int) 8).heap[T.heap.size + 1 + j]? = some (arrV comp 40 (fun _ => .int 0)) := fun j hj => (fi j hj).trans (by rw [zinnC]; rfl)
  have fo2 : ∀ q : Nat, q < T.heap.size → (Jvm.Free.Multi.fill (T.setVm vm₁) cA comp 8 40 (defaultValue .int) 8).heap[q]? = T.heap[q]? := fun q hq => fo q hq
  clear fo fi f3 f4
  generalize hH1 : (Jvm.Free.Multi.fill (T.setVm vm₁) cA comp 8 40 (defaultValue .int) 8).heap = H1 at f1 f2 fi2 fo2
  have hrI : ArrOfT s comp .int ∧ va_RA s comp .int := by
    obtain ⟨⟨-, kC, hkC, cc, hkindC⟩, -⟩ := hI 0 .null
    exact ⟨fun n z => ⟨(fun k h => by cases h), kC, hkC, cc, hkindC⟩, hfC⟩
  have hrA : ArrOfT s cA (.array .int) ∧ va_RA s cA (.array .int) := by
    obtain ⟨⟨-, kC, hkC, cc, hkindC⟩, -⟩ := hO 0 0 0
    exact ⟨fun n z => ⟨(fun k h => by cases h), kC, hkC, cc, hkindC⟩, hfA⟩
  have hS0 := hS.kap fo2
  have hsz := hV.1
  obtain ⟨κ1, φ1, g1, g2, g3⟩ := hS0.push8 hX (b := T.heap.size + 1) hi hrI fi2 (fun j => hA _ (by omega)) (fun o ho => Nat.lt_succ_of_lt (hS.lt o ho)) 8 (Nat.le_refl _)
  have h150 : 150 ∉ z8L 8 L := fun q => by
    rcases (z8L_mem L _ 8).mp q with q | ⟨j, hj, e2⟩
    · exact ho q
    · omega
  have hk150 : kd 150 = 12 := rfl
  have hin8 : ∀ j, j < 8 → 200 + 40 * j ∈ z8L 8 L := fun j hj => (z8L_mem L _ 8).mpr (Or.inr ⟨j, hj, rfl⟩)
  have hsub8 : ∀ o ∈ L, o ∈ z8L 8 L := fun o h => (z8L_mem L o 8).mpr (Or.inl h)
  have hup : va_up κ1 12 cA 12 = cA := if_pos rfl
  have hold : ∀ o ∈ L, φ1 o = φ o := fun o h => g3 o (fun j hj e2 => hi j hj (by rw [← e2]; exact h))
  have hS1 : zSm X A D (va_up κ1 12 cA) (va_up φ1 150 T.heap.size) (zclr 150 (z8m 8 mem)) (z9k lk) (z8L 8 L ++ [150]) s H1 := by
    refine g1.pushL (κ' := va_up κ1 12 cA) (ce := .inl (cA, 8, .inr (.inr (.inr (.inr (fun i => if i < 8 then some (T.heap.size + 1 + i) else none)))))) hX h150 (by omega) (zκ g1 rfl hrA.2) (fun ty hy => ?_) (fun o' ho' j hj => ?_) (fun j hj t ht => ?_) ?_ (g1.1.app (fun k x hx => ?_)) (zD_push g1.2.1 (g1.apart (fun o ho e2 => ?_)) (hA _ hsz))
    · rw [hk150] at hy ⊢; cases hy; rw [hup]; exact hrA
    · unfold z9k
      rw [if_neg (by rw [mo_has hX hj]; exact fun e2 => h150 (by rw [← e2]; exact ho'))]
    · have hj8 : j < 8 := by
        rcases hj with ⟨q, -⟩ | ⟨-, -, q⟩
        · exact absurd q (by decide)
        · exact q
      unfold z9k at ht
      rw [if_pos (mo150 j hj8), show 150 + j - 150 = j by omega] at ht
      rw [← Option.some.inj ht]
      exact hin8 j hj8
    · rw [zcell_ref hk150 (Or.inr rfl), hup]
      have e2 : (fun i => if i < ln X 150 then (z9k lk (150 + i)).map (va_up φ1 150 T.heap.size) else none) = fun i => if i < 8 then some (T.heap.size + 1 + i) else none := by
        funext i
        show (if i < 8 then _ else _) = _
        by_cases hi8 : i < 8
        · rw [if_pos hi8, if_pos hi8]
          unfold z9k
          rw [if_pos (mo150 i hi8), show 150 + i - 150 = i by omega]
          show some (va_up φ1 150 T.heap.size (200 + 40 * i)) = _
          rw [show va_up φ1 150 T.heap.size (200 + 40 * i) = φ1 (200 + 40 * i) from if_neg (by omega), g2 i hi8]
        · rw [if_neg hi8, if_neg hi8]
      rw [e2]; rfl
    · have hz : k < 1 := (List.getElem?_eq_some_iff.mp hx).1
      rw [show k = 0 by omega] at hx
      cases hx
      show H1[T.heap.size]? = some (vp_cell _ _)
      rw [vp_cell_q, f2]
      have ef : (fun j => if j < 8 then Value.ref (T.heap.size + 1 + j) else Value.null) = (fun j => va_rf (if j < 8 then some (T.heap.size + 1 + j) else none)) := by
        funext j
        by_cases hj : j < 8
        · rw [if_pos hj, if_pos hj]; rfl
        · rw [if_neg hj, if_neg hj]; rfl
      exact congrArg (fun f => some (arrV cA 8 f)) ef
    · rcases (z8L_mem L _ 8).mp ho with q | ⟨j, hj, e3⟩
      · have := hS.lt o q
        rw [hold o q] at e2
        omega
      · rw [e3, g2 j hj] at e2
        omega
  have hag : ∀ o', o' ∈ L ∨ kd o' = 13 → va_up φ1 150 T.heap.size o' = φ o' := fun o' h' => by
    have n1 : o' ≠ 150 := fun e2 => by
      subst e2
      rcases h' with h' | h'
      · exact ho h'
      · rw [hk150] at h'; omega
    rw [show va_up φ1 150 T.heap.size o' = φ1 o' from if_neg n1]
    rcases h' with h' | h'
    · exact hold o' h'
    · exact g3 o' (fun j hj e2 => by rw [e2, kd8 j hj] at h'; omega)
  have hXt1 : zXt X A (va_up φ1 150 T.heap.size) (zclr 150 (z8m 8 mem)) s s.heap := hXt.same (fun o' h' => hag o' (Or.inr h')) (fun o' h' i hi' => by
    have hh : zhas X o' i := Or.inr ⟨by omega, by omega, hi'⟩
    rw [zclr_out hX _ hh (fun e2 => by rw [e2, hk150] at h'; omega)]
    exact z8m_out X hX mem hh (fun j hj e2 => by rw [e2, kd8 j hj] at h'; omega) 8 (Nat.le_refl _))
  have hV1 : va_S A s.heap H1 locs := ⟨by rw [f1]; omega, fun x q1 q2 => (fo2 x (Nat.lt_of_lt_of_le q1 hsz)).trans (hV.2.1 x q1 q2), hV.2.2⟩
  have hsub : ∀ o' ∈ L, o' ∈ z8L 8 L ++ [150] := fun o' h' => List.mem_append_left _ (hsub8 o' h')
  have hlen' : (z8L 8 L ++ [150]).length = L.length + 9 := by rw [List.length_append, z8L_len]; rfl
  have i3 : zins L st := zins_tl (zins_tl i2)
  have k1 := h p l e R s m args below meth c H1 locs (cells + 1 + 8) (slots + 8 + 8 * 40) A D (va_up κ1 12 cA) (va_up φ1 150 T.heap.size) Z la hX hC (hL.agree hag i1) hS1 hXt1 hV1 hA (zins_mono hsub i1) (zins_cons (Or.inl (List.mem_append_right _ List.mem_cons_self)) (zins_mono hsub i3)) (by rw [hlen']; exact hlen) (by rw [hlen']; omega) (by rw [hlen']; omega)
    (fun r mem' H' locs' cells' slots' κ'' φ'' pc'' la' a1 a2 a3 a4 a5 a6 a7 a8 a9 a10 => K r mem' H' locs' cells' slots' κ'' φ'' pc'' la' a1 a2 a3 a4 a5 a6 (fun o' h' => (a7 o' (h'.imp (hsub o') id)).trans (hag o' h')) (fun o' h' => a8 o' (hsub o' h')) a9 a10)
  rw [List.map_cons, ztrs_agree hag i3] at k1
  have e1 : ztr (va_up φ1 150 T.heap.size) (Value.ref 150) = .ref T.heap.size := congrArg Value.ref (if_pos rfl)
  rw [e1] at k1
  obtain ⟨t, a1, b1⟩ := k1 _ hH1 X1
  exact ⟨t, step t a1, b1⟩
end ZMU
