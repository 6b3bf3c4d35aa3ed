/-! THE WORLD OF A LOGICAL MEMORY -/
abbrev zMem : Type := Nat → Int32
abbrev zLk : Type := Nat → Option Nat
def zcell (X : Nat) (κ : Nat → ClassId) (φ : Nat → Nat) (mem : zMem) (lk : zLk) (o : Nat) : va_E :=
  if kd o < 9 then .inr (kd o, (List.range (znf (kd o))).map (fun k => if zisI (kd o) k = true then Value.int (mem (o + zoff (kd o) k)) else va_rf ((lk (o + zoff (kd o) k)).map φ)))
  else if kd o < 11 then .inl (κ (kd o), ln X o, .inl (fun i => if i < ln X o then mem (o + i) else 0))
  else .inl (κ (kd o), ln X o, .inr (.inr (.inr (.inr (fun i => if i < ln X o then (lk (o + i)).map φ else none)))))
def zW (X : Nat) (κ : Nat → ClassId) (φ : Nat → Nat) (mem : zMem) (lk : zLk) (L : List Nat) : va_W := L.map (fun o => (φ o, zcell X κ φ mem lk o))
theorem zcell_congr {X : Nat} {κ κ' : Nat → ClassId} {φ φ' : Nat → Nat} {mem mem' : zMem} {lk lk' : zLk} {o : Nat} (ho : kd o ≤ 12)
    (hm : ∀ j, zhas X o j → mem' (o + j) = mem (o + j)) (hl : ∀ j, zhas X o j → (lk' (o + j)).map φ' = (lk (o + j)).map φ) (hk : 9 ≤ kd o → κ' (kd o) = κ (kd o)) :
    zcell X κ' φ' mem' lk' o = zcell X κ φ mem lk o := by
  unfold zcell
  by_cases h9 : kd o < 9
  · rw [if_pos h9, if_pos h9]
    congr 2
    apply List.map_congr_left
    intro k hk'
    have hh : zhas X o (zoff (kd o) k) := Or.inl ⟨h9, k, List.mem_range.mp hk', rfl⟩
    rw [hm _ hh, hl _ hh]
  · rw [if_neg h9, if_neg h9, hk (by omega)]
    have hh : ∀ i, i < ln X o → zhas X o i := fun i hi => Or.inr ⟨by omega, by omega, hi⟩
    by_cases h11 : kd o < 11
    · rw [if_pos h11, if_pos h11]
      have : (fun i => if i < ln X o then mem' (o + i) else 0) = (fun i => if i < ln X o then mem (o + i) else 0) := by
        funext i
        by_cases hi : i < ln X o
        · rw [if_pos hi, if_pos hi, hm _ (hh i hi)]
        · rw [if_neg hi, if_neg hi]
      rw [this]
    · rw [if_neg h11, if_neg h11]
      have : (fun i => if i < ln X o then (lk' (o + i)).map φ' else none) = (fun i => if i < ln X o then (lk (o + i)).map φ else none) := by
        funext i
        by_cases hi : i < ln X o
        · rw [if_pos hi, if_pos hi, hl _ (hh i hi)]
        · rw [if_neg hi, if_neg hi]
      rw [this]
theorem zW_get {X : Nat} {κ : Nat → ClassId} {φ : Nat → Nat} {mem : zMem} {lk : zLk} {L : List Nat} {k o : Nat} (h : L[k]? = some o) : (zW X κ φ mem lk L)[k]? = some (φ o, zcell X κ φ mem lk o) := by
  unfold zW
  rw [List.getElem?_map, h]; rfl
theorem zW_of {X : Nat} {κ : Nat → ClassId} {φ : Nat → Nat} {mem : zMem} {lk : zLk} {L : List Nat} {k : Nat} {q : Nat × va_E} (h : (zW X κ φ mem lk L)[k]? = some q) : ∃ o, L[k]? = some o ∧ q = (φ o, zcell X κ φ mem lk o) := by
  unfold zW at h
  rw [List.getElem?_map] at h
  cases hL : L[k]? with
  | none => rw [hL] at h; cases h
  | some o => rw [hL] at h; cases h; exact ⟨o, rfl, rfl⟩
theorem zW_set {X : Nat} {κ : Nat → ClassId} {φ : Nat → Nat} {mem mem' : zMem} {lk lk' : zLk} {L : List Nat} {k o : Nat} (h : L[k]? = some o) (hn : ∀ i, L[i]? = some o → i = k)
    (hc : ∀ o', o' ∈ L → o' ≠ o → zcell X κ φ mem' lk' o' = zcell X κ φ mem lk o') : (zW X κ φ mem lk L).set k (φ o, zcell X κ φ mem' lk' o) = zW X κ φ mem' lk' L := by
  apply List.ext_getElem?
  intro i
  unfold zW
  rw [List.getElem?_set]
  by_cases hi : k = i
  · subst hi
    rw [if_pos rfl, List.getElem?_map, h]
    have : k < (List.map (fun o => (φ o, zcell X κ φ mem lk o)) L).length := by
      rw [List.length_map]; exact (List.getElem?_eq_some_iff.mp h).1
    rw [if_pos this]; rfl
  · rw [if_neg hi, List.getElem?_map, List.getElem?_map]
    cases hL : L[i]? with
    | none => rfl
    | some o' =>
      have hne : o' ≠ o := fun e => hi (hn i (by rw [hL, e])).symm
      show some (φ o', zcell X κ φ mem lk o') = some (φ o', zcell X κ φ mem' lk' o')
      rw [hc o' (List.mem_of_getElem? hL) hne]
/-- values, in the machine's addresses -/
def ztr (φ : Nat → Nat) : Value → Value
  | .ref o => .ref (φ o)
  | v => v
theorem ztr_cat (φ : Nat → Nat) (v : Value) : (ztr φ v).category = v.category := by cases v <;> rfl
/-- a reference is of the world, or only read -/
def zin (L : List Nat) : Value → Prop
  | .ref o => o ∈ L ∨ kd o = 13
  | _ => True
def zins (L : List Nat) (vs : List Value) : Prop := ∀ v ∈ vs, zin L v
/-- the arrays that are only read, and the statics that hold them -/
def zst4 : List (Nat × String × String) := [(4000, "DishLift$House", "BY_NUMBER"), (4010, "DishLift$Asks", "NEXT_KIND"), (4020, "DishLift$Asks", "SIZE_BODIES"), (4030, "DishLift$Asks", "MARK_BODIES")]
def zXt (X : Nat) (A : Nat → Prop) (φ : Nat → Nat) (mem : zMem) (s : State) (H : Heap) : Prop :=
  (∀ o, kd o = 13 → va_T .int (φ o) (ln X o) (fun i => .int (mem (o + i))) A s H) ∧ ∀ q ∈ zst4, va_Z q.2.1 q.2.2 "[I" (.ref (φ q.1)) A s H
/-- the heap holds the memory -/
def zSm (X : Nat) (A : Nat → Prop) (D : va_G) (κ : Nat → ClassId) (φ : Nat → Nat) (mem : zMem) (lk : zLk) (L : List Nat) (s : State) (H : Heap) : Prop :=
  va_P D vwCl (zW X κ φ mem lk L) H ∧ va_D A (zW X κ φ mem lk L) ∧ va_K D vwCl [] s ∧ (∀ o ∈ L, ∀ ty, zaty (kd o) = some ty → ArrOfT s (κ (kd o)) ty ∧ va_RA s (κ (kd o)) ty) ∧
  (∀ o ∈ L, kd o ≤ 12) ∧ (∀ o ∈ L, ∀ j, zhas X o j → ∀ t, lk (o + j) = some t → t ∈ L)
theorem zSm.inj {X : Nat} {A : Nat → Prop} {D : va_G} {κ : Nat → ClassId} {φ : Nat → Nat} {mem : zMem} {lk : zLk} {L : List Nat} {s : State} {H : Heap} (h : zSm X A D κ φ mem lk L s H) {i j o : Nat} (hi : L[i]? = some o) (hj : L[j]? = some o) : i = j :=
  h.2.1.1 i j _ _ (zW_get hi) (zW_get hj) rfl
theorem zSm.moved {X : Nat} {A : Nat → Prop} {D : va_G} {κ : Nat → ClassId} {φ : Nat → Nat} {mem : zMem} {lk : zLk} {L : List Nat} {s U : State} {H : Heap} (hvm : s.vm.Alike U.vm) (h : zSm X A D κ φ mem lk L s H) : zSm X A D κ φ mem lk L U H :=
  ⟨h.1, h.2.1, va_K.moved hvm h.2.2.1, fun o ho ty hty => ⟨arrOfT_moved hvm (h.2.2.2.1 o ho ty hty).1, (h.2.2.2.1 o ho ty hty).2.moved hvm⟩, h.2.2.2.2.1, h.2.2.2.2.2⟩
theorem zXt.moved {X : Nat} {A : Nat → Prop} {φ : Nat → Nat} {mem : zMem} {s U : State} {H : Heap} (hvm : s.vm.Alike U.vm) (h : zXt X A φ mem s H) : zXt X A φ mem U H :=
  ⟨fun o ho => (h.1 o ho).moved hvm, fun q hq => (h.2 q hq).moved hvm⟩
theorem zXt.kept {X : Nat} {A : Nat → Prop} {φ : Nat → Nat} {mem : zMem} {s : State} {H H1 : Heap} (h : zXt X A φ mem s H) (hq : ∀ a : Nat, a < H.size → ¬ A a → H1[a]? = H[a]?) : zXt X A φ mem s H1 :=
  ⟨fun o ho => (h.1 o ho).kept hq, fun q hq' => (h.2 q hq').kept hq⟩
/-- the memory of what is only read, and its addresses, stay -/
def zsameX (X : Nat) (φ φ' : Nat → Nat) (mem mem' : zMem) : Prop := (∀ o, kd o = 13 → φ' o = φ o) ∧ ∀ o, kd o = 13 → ∀ i, mem' (o + i) = mem (o + i)
theorem zst4_kd : ∀ q ∈ zst4, kd q.1 = 13 := by decide +kernel
theorem zXt.same {X : Nat} {A : Nat → Prop} {φ φ' : Nat → Nat} {mem mem' : zMem} {s : State} {H : Heap} (h : zXt X A φ mem s H) (h1 : ∀ o, kd o = 13 → φ' o = φ o) (h2 : ∀ o, kd o = 13 → ∀ i, i < ln X o → mem' (o + i) = mem (o + i)) : zXt X A φ' mem' s H := by
  refine ⟨fun o ho => ?_, fun q hq => ?_⟩
  · have := h.1 o ho
    rw [h1 o ho]
    obtain ⟨cell, a1, a2, a3, a4, a5, a6, a7⟩ := this
    exact ⟨cell, a1, a2, a3, a4, a5, fun j hj => by rw [a6 j hj]; show some (Value.int (mem (o + j))) = some (Value.int (mem' (o + j))); rw [h2 o ho j hj], a7⟩
  · rw [h1 _ (zst4_kd q hq)]; exact h.2 q hq
/-- storing a number at a word of an id of the world -/
theorem mo_ne {X o o' j j' : Nat} (hX : X ≤ 3072) (h : zhas X o j) (h' : zhas X o' j') (hne : o' ≠ o) : o' + j' ≠ o + j := fun e => hne (by
  have a := mo_has hX h
  have b := mo_has hX h'
  rw [e, a] at b
  exact b.symm)
theorem upd_ne {f : Nat → Int32} {k j : Nat} {x : Int32} (h : j ≠ k) : upd f k x j = f j := if_neg h
theorem upd_eq {f : Nat → Int32} {k : Nat} {x : Int32} : upd f k x k = x := if_pos rfl
theorem zXt.sto {X : Nat} {A : Nat → Prop} {φ : Nat → Nat} {mem : zMem} {s : State} {H : Heap} (hX : X ≤ 3072) (h : zXt X A φ mem s H) {o j : Nat} (ho : kd o ≤ 12) (hj : zhas X o j) (x : Int32) : zXt X A φ (upd mem (o + j) x) s H := by
  refine h.same (fun _ _ => rfl) (fun o' ho' i hi => upd_ne (mo_ne hX hj (Or.inr ⟨by omega, by omega, hi⟩) (fun e => by subst e; omega)))
/-- the world behind a store of a number -/
theorem zSm.sto {X : Nat} {A : Nat → Prop} {D : va_G} {κ : Nat → ClassId} {φ : Nat → Nat} {mem : zMem} {lk : zLk} {L : List Nat} {s : State} {H H1 : Heap} (hX : X ≤ 3072) (h : zSm X A D κ φ mem lk L s H) {k o j : Nat} (hk : L[k]? = some o) (hj : zhas X o j) (x : Int32)
    (hP : va_P D vwCl ((zW X κ φ mem lk L).set k (φ o, zcell X κ φ (upd mem (o + j) x) lk o)) H1) (hD : va_D A ((zW X κ φ mem lk L).set k (φ o, zcell X κ φ (upd mem (o + j) x) lk o))) : zSm X A D κ φ (upd mem (o + j) x) lk L s H1 := by
  have e := zW_set (X := X) (κ := κ) (φ := φ) (mem := mem) (mem' := upd mem (o + j) x) (lk := lk) (lk' := lk) hk (fun i hi => h.inj hi hk) (fun o' ho' hne => zcell_congr (h.2.2.2.2.1 o' ho') (fun j' hj' => upd_ne (mo_ne hX hj hj' hne)) (fun _ _ => rfl) (fun _ => rfl))
  rw [e] at hP hD
  exact ⟨hP, hD, h.2.2.1, h.2.2.2.1, h.2.2.2.2.1, h.2.2.2.2.2⟩
/-- the world behind a store of a reference -/
theorem zSm.stl {X : Nat} {A : Nat → Prop} {D : va_G} {κ : Nat → ClassId} {φ : Nat → Nat} {mem : zMem} {lk : zLk} {L : List Nat} {s : State} {H H1 : Heap} (hX : X ≤ 3072) (h : zSm X A D κ φ mem lk L s H) {k o j v : Nat} (hk : L[k]? = some o) (hj : zhas X o j) (hv : v ∈ L)
    (hP : va_P D vwCl ((zW X κ φ mem lk L).set k (φ o, zcell X κ φ mem (va_up lk (o + j) (some v)) o)) H1) (hD : va_D A ((zW X κ φ mem lk L).set k (φ o, zcell X κ φ mem (va_up lk (o + j) (some v)) o))) : zSm X A D κ φ mem (va_up lk (o + j) (some v)) L s H1 := by
  have e := zW_set (X := X) (κ := κ) (φ := φ) (mem := mem) (mem' := mem) (lk := lk) (lk' := va_up lk (o + j) (some v)) hk (fun i hi => h.inj hi hk) (fun o' ho' hne => zcell_congr (h.2.2.2.2.1 o' ho') (fun _ _ => rfl) (fun j' hj' => by rw [va_up_ne _ _ (mo_ne hX hj hj' hne)]) (fun _ => rfl))
  rw [e] at hP hD
  refine ⟨hP, hD, h.2.2.1, h.2.2.2.1, h.2.2.2.2.1, fun o' ho' j' hj' t ht => ?_⟩
  by_cases e2 : o' + j' = o + j
  · rw [e2] at ht
    have : va_up lk (o + j) (some v) (o + j) = some v := if_pos rfl
    rw [this] at ht; cases ht; exact hv
  · rw [va_up_ne _ _ e2] at ht
    exact h.2.2.2.2.2 o' ho' j' hj' t ht
/-- a new id: its words are clean -/
def zclr (o : Nat) (mem : zMem) : zMem := fun x => if mo x = o then 0 else mem x
def zclk (o : Nat) (lk : zLk) : zLk := fun x => if mo x = o then none else lk x
theorem zclr_in {X o j : Nat} (hX : X ≤ 3072) (mem : zMem) (h : zhas X o j) : zclr o mem (o + j) = 0 := if_pos (mo_has hX h)
theorem zclk_in {X o j : Nat} (hX : X ≤ 3072) (lk : zLk) (h : zhas X o j) : zclk o lk (o + j) = none := if_pos (mo_has hX h)
theorem zclr_out {X o o' j : Nat} (hX : X ≤ 3072) (mem : zMem) (h : zhas X o' j) (hne : o' ≠ o) : zclr o mem (o' + j) = mem (o' + j) := if_neg (by rw [mo_has hX h]; exact hne)
theorem zclk_out {X o o' j : Nat} (hX : X ≤ 3072) (lk : zLk) (h : zhas X o' j) (hne : o' ≠ o) : zclk o lk (o' + j) = lk (o' + j) := if_neg (by rw [mo_has hX h]; exact hne)
theorem zW_push {X : Nat} {κ κ' : Nat → ClassId} {φ φ' : Nat → Nat} {mem mem' : zMem} {lk lk' : zLk} {L : List Nat} {o q : Nat} {ce : va_E} (hφ : φ' o = q) (hce : zcell X κ' φ' mem' lk' o = ce)
    (hc : ∀ o' ∈ L, (φ' o', zcell X κ' φ' mem' lk' o') = (φ o', zcell X κ φ mem lk o')) : zW X κ φ mem lk L ++ [(q, ce)] = zW X κ' φ' mem' lk' (L ++ [o]) := by
  unfold zW
  rw [List.map_append]
  congr 1
  · exact List.map_congr_left (fun o' ho' => (hc o' ho').symm)
  · rw [List.map_singleton, hφ, hce]
theorem zSm.push {X : Nat} {A : Nat → Prop} {D : va_G} {κ κ' : Nat → ClassId} {φ : Nat → Nat} {mem : zMem} {lk : zLk} {L : List Nat} {s : State} {H H1 : Heap} (hX : X ≤ 3072) (h : zSm X A D κ φ mem lk L s H) {o q : Nat} {ce : va_E} (ho : o ∉ L) (hko : kd o ≤ 12)
    (hκ : ∀ o' ∈ L, 9 ≤ kd o' → κ' (kd o') = κ (kd o')) (hty : ∀ ty, zaty (kd o) = some ty → ArrOfT s (κ' (kd o)) ty ∧ va_RA s (κ' (kd o)) ty)
    (hce : zcell X κ' (va_up φ o q) (zclr o mem) (zclk o lk) o = ce) (hP : va_P D vwCl (zW X κ φ mem lk L ++ [(q, ce)]) H1) (hD : va_D A (zW X κ φ mem lk L ++ [(q, ce)])) :
    zSm X A D κ' (va_up φ o q) (zclr o mem) (zclk o lk) (L ++ [o]) s H1 := by
  have hne : ∀ o' ∈ L, o' ≠ o := fun o' h1 e => ho (by rw [← e]; exact h1)
  have e := zW_push (X := X) (κ := κ) (κ' := κ') (φ := φ) (φ' := va_up φ o q) (mem := mem) (mem' := zclr o mem) (lk := lk) (lk' := zclk o lk) (L := L) (o := o) (q := q) (if_pos rfl) hce (fun o' ho' => by
    have h1 : va_up φ o q o' = φ o' := if_neg (hne o' ho')
    rw [h1]
    rw [zcell_congr (κ := κ) (φ := φ) (mem := mem) (lk := lk) (h.2.2.2.2.1 o' ho') (fun j hj => zclr_out hX mem hj (hne o' ho')) (fun j hj => ?_) (hκ o' ho')]
    rw [zclk_out hX lk hj (hne o' ho')]
    cases hl : lk (o' + j) with
    | none => rfl
    | some t =>
      show some (va_up φ o q t) = some (φ t)
      have ht := h.2.2.2.2.2 o' ho' j hj t hl
      exact congrArg some (if_neg (hne t ht)))
  rw [e] at hP hD
  refine ⟨hP, hD, h.2.2.1, fun o' ho' ty hy => ?_, fun o' ho' => ?_, fun o' ho' j hj t ht => ?_⟩
  · rcases List.mem_append.mp ho' with h1 | h1
    · have := h.2.2.2.1 o' h1 ty hy
      have h9 : 9 ≤ kd o' := by
        rcases Nat.lt_or_ge (kd o') 9 with g | g
        · exfalso
          rcases (show kd o' = 0 ∨ kd o' = 1 ∨ kd o' = 2 ∨ kd o' = 3 ∨ kd o' = 4 ∨ kd o' = 5 ∨ kd o' = 6 ∨ kd o' = 7 ∨ kd o' = 8 by omega) with g | g | g | g | g | g | g | g | g <;> rw [g] at hy <;> cases hy
        · exact g
      rw [hκ o' h1 h9]; exact this
    · rw [List.mem_singleton.mp h1] at hy ⊢
      exact hty ty hy
  · rcases List.mem_append.mp ho' with h1 | h1
    · exact h.2.2.2.2.1 o' h1
    · rw [List.mem_singleton.mp h1]; exact hko
  · rcases List.mem_append.mp ho' with h1 | h1
    · rw [zclk_out hX lk hj (hne o' h1)] at ht
      exact List.mem_append_left _ (h.2.2.2.2.2 o' h1 j hj t ht)
    · have e2 := List.mem_singleton.mp h1
      subst e2
      rw [zclk_in hX lk hj] at ht
      cases ht
theorem zXt.push {X : Nat} {A : Nat → Prop} {φ : Nat → Nat} {mem : zMem} {s : State} {H : Heap} (hX : X ≤ 3072) (h : zXt X A φ mem s H) {o q : Nat} (ho : kd o ≤ 12) : zXt X A (va_up φ o q) (zclr o mem) s H := by
  have hne : ∀ o', kd o' = 13 → o' ≠ o := fun o' h1 e => by subst e; omega
  exact h.same (fun o' h1 => if_neg (hne o' h1)) (fun o' h1 i hi => zclr_out hX mem (Or.inr ⟨by omega, by omega, hi⟩) (hne o' h1))
/-- the tables' words that every state behind keeps -/
def zgd : List Cond := lw_tbl.filter goodWord
theorem zgd_in {w : Cond} {i : Nat} (h : lw_tbl[i]? = some w) (g : goodWord w = true) : w ∈ zgd := List.mem_filter.mpr ⟨List.mem_of_getElem? h, g⟩
theorem zgd_good : ∀ ws : List Cond, (∀ w ∈ ws, w ∈ zgd) → GoodIn zgd ws := fun ws h w hw => ⟨h w hw, good_of_word (List.mem_filter.mp (h w hw)).2⟩
/-- the words on private constructors of nest mates -/
def zisN : Cond → Bool
  | .methodLinkNest .. => true
  | _ => false
def znw : List Cond := lw_tbl.filter zisN
theorem znw_in {w : Cond} {i : Nat} (h : lw_tbl[i]? = some w) (g : zisN w = true) : w ∈ znw := List.mem_filter.mpr ⟨List.mem_of_getElem? h, g⟩
theorem znw_warm {s U : State} (hW : s.WarmedH U.vm) (h : ∀ w ∈ znw, va_Nw w s) : ∀ w ∈ znw, va_Nw w U := fun w hw => by
  have hn := (List.mem_filter.mp hw).2
  have h1 := h w hw
  cases w <;> first | (cases hn; done) | exact va_Nw.warmM hW h1
