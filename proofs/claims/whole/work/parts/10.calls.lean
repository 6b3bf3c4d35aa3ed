/-! rows that make, rows that call, rows that return -/
theorem ln_le0 : zZ.all (fun q => Nat.ble q.2.2 1247 || Nat.beq q.2.1 13) = true := by decide +kernel
theorem ln_le {X o : Nat} (h : kd o ≤ 12) : ln X o ≤ 1247 := by
  by_cases ho : o < 10000
  · rcases kd_lt ho with h9 | ⟨k, n, hz, hk, hm⟩
    · omega
    · have h1 := List.all_eq_true.mp ln_le0 _ hm
      simp only [Bool.or_eq_true, Nat.ble_eq, Nat.beq_eq] at h1
      have hne : o ≠ 5000 := fun e => by
        subst e
        have : kd 5000 = 13 := by decide +kernel
        omega
      unfold ln
      rw [show Nat.blt o 10000 = true by rw [Nat.blt_eq]; exact ho, hz, show Nat.beq o 5000 = false by rw [Bool.eq_false_iff, ne_eq, Nat.beq_eq]; exact hne]
      show n ≤ 1247
      omega
  · rw [ln_house X o (by omega)]; omega
theorem zin_mono {L L' : List Nat} (h : ∀ o ∈ L, o ∈ L') {v : Value} (hv : zin L v) : zin L' v := by
  cases v with
  | ref o => exact hv.imp (h o) id
  | _ => exact hv
theorem zins_mono {L L' : List Nat} (h : ∀ o ∈ L, o ∈ L') {vs : List Value} (hv : zins L vs) : zins L' vs := fun v hw => zin_mono h (hv v hw)
theorem ztr_agree {L : List Nat} {φ φ' : Nat → Nat} (h : ∀ o, o ∈ L ∨ kd o = 13 → φ' o = φ o) {v : Value} (hv : zin L v) : ztr φ' v = ztr φ v := by
  cases v with
  | ref o => exact congrArg Value.ref (h o hv)
  | _ => rfl
theorem ztrs_agree {L : List Nat} {φ φ' : Nat → Nat} (h : ∀ o, o ∈ L ∨ kd o = 13 → φ' o = φ o) {vs : List Value} (hv : zins L vs) : vs.map (ztr φ') = vs.map (ztr φ) := List.map_congr_left (fun v hw => ztr_agree h (hv v hw))
theorem zLs.agree {L : List Nat} {φ φ' : Nat → Nat} {n : Nat} {ls : List Value} {la : Array Slot} (hl : zLs φ n ls la) (h : ∀ o, o ∈ L ∨ kd o = 13 → φ' o = φ o) (hv : zins L ls) : zLs φ' n ls la :=
  ⟨hl.1, hl.2.1, hl.2.2.1, fun i v h1 h2 => by rw [ztr_agree h (zins_at hv h1)]; exact hl.2.2.2 i v h1 h2⟩
section ZC
variable {X d y pc : Nat} {ls st : List Value} {mem : zMem} {lk : zLk} {L : List Nat} {lkf : zLk} {Lf : List Nat} {Q : Option Value → zMem → Prop}
/-- behind a new id -/
theorem zE_made {o q N : Nat} {p : Program} {l : Launch} {e : Env} {R : Room} {s : State} {m : MethodId} {args : Array Value} {below : List Frame} {meth : Method} {c : Code} {H H1 : Heap} {locs : List Loc} {cells slots : Nat} {A : Nat → Prop} {D : va_G} {κ κ' : Nat → ClassId} {φ : Nat → Nat} {Z : State → Prop} {la : Array Slot} {pc' : Nat} {ce : va_E}
    (h : zE X d y pc' ls (.ref o :: st) (zclr o mem) (zclk o lk) (L ++ [o]) lkf Lf Q) (ho : o ∉ L) (hko : kd o ≤ 12) (hlen : L.length + 1 ≤ Lf.length) (hN : N ≤ 1300)
    (hX : X ≤ 3072) (hC : zCx d y p R s m args meth c) (hL : zLs φ (zmL y) ls la) (hS : zSm X A D κ φ mem lk L s H) (hXt : zXt X A φ mem s s.heap) (hA : ∀ q, s.heap.size ≤ q → A q) (i1 : zins L ls) (i2 : zins L st) (h4 : cells + (Lf.length - L.length) ≤ R.cells) (h5 : slots + 1300 * (Lf.length - L.length) ≤ R.slots)
    (K : ∀ (r : Option Value) (mem' : zMem) (H' : Heap) (locs' : List Loc) (cells' slots' : Nat) (κ' : Nat → ClassId) (φ' : Nat → Nat) (pc' : Nat) (la' : Array Slot),
      Q r mem' → zSm X A D κ' φ' mem' lkf Lf s H' → zXt X A φ' mem' s s.heap → va_S A s.heap H' locs' → cells' ≤ R.cells → slots' ≤ R.slots → (∀ o, o ∈ L ∨ kd o = 13 → φ' o = φ o) → (∀ o ∈ L, o ∈ Lf) → (∀ v, r = some v → zin Lf v) → zRet y pc' r →
      W p l e R s m args below meth c H' locs' cells' slots' Z (F0 m pc' la' (r.map (ztr φ')).toList))
    (hκ : ∀ o' ∈ L, 9 ≤ kd o' → κ' (kd o') = κ (kd o')) (hty : ∀ ty, zaty (kd o) = some ty → ArrOfT s (κ' (kd o)) ty ∧ va_RA s (κ' (kd o)) ty)
    (hce : zcell X κ' (va_up φ o q) (zclr o mem) (zclk o lk) o = ce) (hP : va_P D vwCl (zW X κ φ mem lk L ++ [(q, ce)]) H1) (hD : va_D A (zW X κ φ mem lk L ++ [(q, ce)])) (hV : va_S A s.heap H1 locs) :
    W p l e R s m args below meth c H1 locs (cells + 1) (slots + N) Z (F0 m pc' la (.ref q :: st.map (ztr φ))) := by
  have hag : ∀ o', o' ∈ L ∨ kd o' = 13 → va_up φ o q o' = φ o' := fun o' h' => if_neg (fun e2 => by
    subst e2
    rcases h' with h' | h'
    · exact ho h'
    · omega)
  have hsub : ∀ o' ∈ L, o' ∈ L ++ [o] := fun o' h' => List.mem_append_left _ h'
  have hlen' : (L ++ [o]).length = L.length + 1 := by simp
  have k1 := h p l e R s m args below meth c H1 locs (cells + 1) (slots + N) A D κ' (va_up φ o q) Z la hX hC (hL.agree hag i1) (hS.push hX ho hko hκ hty hce hP hD) (hXt.push hX hko) hV hA (zins_mono hsub i1) (zins_cons (Or.inl (List.mem_append_right _ List.mem_cons_self)) (zins_mono hsub i2)) (by rw [hlen']; exact hlen) (by rw [hlen']; omega) (by rw [hlen']; omega)
    (fun r mem' H' locs' cells' slots' κ'' φ'' pc'' la' a1 a2 a3 a4 a5 a6 a7 a8 a9 a10 => K r mem' H' locs' cells' slots' κ'' φ'' pc'' la' a1 a2 a3 a4 a5 a6 (fun o' h' => (a7 o' (h'.imp (hsub o') id)).trans (hag o' h')) (fun o' h' => a8 o' (hsub o' h')) a9 a10)
  rw [List.map_cons, ztrs_agree hag i2] at k1
  have e1 : ztr (va_up φ o q) (Value.ref o) = .ref q := congrArg Value.ref (if_pos rfl)
  rw [e1] at k1
  exact k1
theorem zE_new {o a idx : Nat} {q : vw_C} (hd : decode (zmB y) pc = .ok (.new idx, 3)) (hc : vwCl[a]? = some q) (hl1 : Cond.classLink (zmO y) idx q.1 ∈ zgd) (hl2 : Cond.instantiable q.1 q.2.2 ∈ zgd) (hl3 : Cond.initialized q.1 ∈ zgd) (hko : kd o = a) (ho : o ∉ L) (hlen : L.length + 1 ≤ Lf.length)
    (h : zE X d y (pc + 3) ls (.ref o :: st) (zclr o mem) (zclk o lk) (L ++ [o]) lkf Lf Q) : zE X d y pc ls st mem lk L lkf Lf Q := by
  intro p l e R s m args below meth c H locs cells slots A D κ φ Z la hX hC hL hS hXt hV hA i1 i2 h3 h4 h5 K
  have h9 := zlt9 hc
  obtain ⟨ty0, ht1, ht2⟩ := ztys hc
  have hN := znf_ok hc
  have hb : znf a ≤ 19 := by
    rcases (show a = 0 ∨ a = 1 ∨ a = 2 ∨ a = 3 ∨ a = 4 ∨ a = 5 ∨ a = 6 ∨ a = 7 ∨ a = 8 by omega) with rfl | rfl | rfl | rfl | rfl | rfl | rfl | rfl | rfl <;> decide
  refine va_new (ci := a) (C := q.1) (T := q.2.1) (N := q.2.2) (fs := (List.range (znf a)).map (fun k => if zisI a k = true then Value.int 0 else Value.null)) hC.2.1 hC.2.2.1 hC.2.2.2.2.2.2.2.2.1 (zuw hc) ty0 ht1 hC.2.2.2.2.2.1 (hC.2.2.2.2.2.2.2.2.1 _ hl1) (hC.2.2.2.2.2.2.2.2.1 _ hl2) (hC.2.2.2.2.2.2.2.2.1 _ hl3) hS.2.2.1 hS.1 hS.2.1 hV hA hc ?_ (by omega) (by rw [hN]; omega) hd (fun q1 H1 hP1 hD1 hV1 => ?_)
  · intro j hj
    have hj' : j < znf a := by rw [← hN]; exact hj
    unfold vp_V
    rw [List.getD_eq_getElem?_getD, List.getElem?_map, List.getElem?_range hj']
    show _ = (if zisI a j = true then Value.int 0 else Value.null)
    have := ztyB_ok (ht2 j hj)
    cases hz : zisI a j with
    | true => rw [this.1 hz]; rfl
    | false =>
      rcases this.2 hz with ⟨n, e⟩ | ⟨n, e⟩ <;> rw [e] <;> rfl
  · refine zE_made (κ := κ) (κ' := κ) (N := q.2.2) h ho (by omega) hlen (by rw [hN]; omega) hX hC hL hS hXt hA i1 i2 h4 h5 K (fun _ _ _ => rfl) (fun ty hy => ?_) ?_ hP1 hD1 hV1
    · exfalso
      rw [hko] at hy
      rcases (show a = 0 ∨ a = 1 ∨ a = 2 ∨ a = 3 ∨ a = 4 ∨ a = 5 ∨ a = 6 ∨ a = 7 ∨ a = 8 by omega) with rfl | rfl | rfl | rfl | rfl | rfl | rfl | rfl | rfl <;> cases hy
    · rw [zcell_obj hko h9]
      unfold zfs
      congr 2
      apply List.map_congr_left
      intro k hk
      have hh : zhas X o (zoff a k) := Or.inl ⟨by omega, k, by rw [hko]; exact List.mem_range.mp hk, by rw [hko]⟩
      rw [zclr_in hX mem hh, zclk_in hX lk hh]; rfl
theorem nI_ok {n : Nat} (h : n ≤ 1247) : ¬ nI n < 0 ∧ (nI n).toNatClampNeg = n := ⟨nI_pos (by omega), nI_clamp (by omega)⟩
theorem zRA_uniq {s : State} {c1 c2 : ClassId} {ty : FieldType} (h1 : va_RA s c1 ty) (h2 : va_RA s c2 ty) : c1 = c2 := by
  cases ty with
  | object C =>
    obtain ⟨-, -, -, -, -, g1⟩ := h1
    obtain ⟨-, -, -, -, -, g2⟩ := h2
    exact Option.some.inj (g1.symm.trans g2)
  | _ => exact Option.some.inj (Eq.trans (Eq.symm h1) h2)
theorem zaty_inj {a b : Nat} {ty : FieldType} (h : zaty a = some ty) (h' : zaty b = some ty) : a = b := by
  unfold zaty at h h'
  split at h <;> split at h' <;> first | rfl | (cases h; cases h'; done) | (cases h; done) | (cases h'; done)
theorem zκ {X : Nat} {A : Nat → Prop} {D : va_G} {κ : Nat → ClassId} {φ : Nat → Nat} {mem : zMem} {lk : zLk} {L : List Nat} {s : State} {H : Heap} (hS : zSm X A D κ φ mem lk L s H) {a : Nat} {ty : FieldType} (ha : zaty a = some ty) {cA : ClassId} (hr : va_RA s cA ty) : ∀ o' ∈ L, 9 ≤ kd o' → va_up κ a cA (kd o') = κ (kd o') := fun o' ho' _ => by
  by_cases e : kd o' = a
  · have h1 := (hS.2.2.2.1 o' ho' ty (by rw [e]; exact ha)).2
    rw [e] at h1 ⊢
    rw [show va_up κ a cA a = cA from if_pos rfl]
    exact zRA_uniq hr h1
  · exact va_up_ne _ _ e
theorem zE_newI {o : Nat} {n : Int32} (hd : decode (zmB y) pc = .ok (.newarray .int, 2)) (hw : Cond.arrayClass .int ∈ zgd) (hko : kd o = 9) (hn : n = nI (ln X o)) (ho : o ∉ L) (hlen : L.length + 1 ≤ Lf.length)
    (h : zE X d y (pc + 2) ls (.ref o :: st) (zclr o mem) (zclk o lk) (L ++ [o]) lkf Lf Q) : zE X d y pc ls (.int n :: st) mem lk L lkf Lf Q := by
  intro p l e R s m args below meth c H locs cells slots A D κ φ Z la hX hC hL hS hXt hV hA i1 i2 h3 h4 h5 K
  have hle := ln_le (X := X) (o := o) (by omega)
  obtain ⟨n1, n2⟩ := nI_ok hle
  subst hn
  refine va_newa (atype := .int) (ty := .int) (a0 := (ln X o, .inl (fun _ => 0))) hC.2.1 hC.2.2.1 (hC.2.2.2.2.2.2.2.2.1 _ hw) rfl hS.2.2.1 hS.1 hS.2.1 hV hA (fun _ => rfl) n1 n2 (by show ln X o * 4 ≤ _; omega) (by omega) (by omega) hd (fun q1 cA H1 hK1 hP1 hD1 hV1 => ?_)
  have hr : ArrOfT s cA .int ∧ va_RA s cA .int := hK1.2 0 _ rfl
  have hup : va_up κ 9 cA 9 = cA := if_pos rfl
  refine zE_made (κ := κ) (κ' := va_up κ 9 cA) (N := ln X o) h ho (by omega) hlen (by omega) hX hC hL hS hXt hA i1 (zins_tl i2) h4 h5 K (zκ hS rfl hr.2) (fun ty hy => ?_) ?_ hP1 hD1 hV1
  · rw [hko] at hy ⊢; cases hy; rw [hup]; exact hr
  · rw [zcell_int hko (Or.inl rfl), hup]
    have : (fun i => if i < ln X o then zclr o mem (o + i) else 0) = fun _ => 0 := by
      funext i
      by_cases hi : i < ln X o
      · rw [if_pos hi, zclr_in hX mem (Or.inr ⟨by omega, by omega, hi⟩)]
      · rw [if_neg hi]
    rw [this]
theorem zE_newZ {o : Nat} {n : Int32} (hd : decode (zmB y) pc = .ok (.newarray .boolean, 2)) (hw : Cond.arrayClass .boolean ∈ zgd) (hko : kd o = 10) (hn : n = nI (ln X o)) (ho : o ∉ L) (hlen : L.length + 1 ≤ Lf.length)
    (h : zE X d y (pc + 2) ls (.ref o :: st) (zclr o mem) (zclk o lk) (L ++ [o]) lkf Lf Q) : zE X d y pc ls (.int n :: st) mem lk L lkf Lf Q := by
  intro p l e R s m args below meth c H locs cells slots A D κ φ Z la hX hC hL hS hXt hV hA i1 i2 h3 h4 h5 K
  have hle := ln_le (X := X) (o := o) (by omega)
  obtain ⟨n1, n2⟩ := nI_ok hle
  subst hn
  refine va_newa (atype := .boolean) (ty := .boolean) (a0 := (ln X o, .inl (fun _ => 0))) hC.2.1 hC.2.2.1 (hC.2.2.2.2.2.2.2.2.1 _ hw) rfl hS.2.2.1 hS.1 hS.2.1 hV hA (fun _ => rfl) n1 n2 (by show ln X o * 1 ≤ _; omega) (by omega) (by omega) hd (fun q1 cA H1 hK1 hP1 hD1 hV1 => ?_)
  have hr : ArrOfT s cA .boolean ∧ va_RA s cA .boolean := hK1.2 0 _ rfl
  have hup : va_up κ 10 cA 10 = cA := if_pos rfl
  refine zE_made (κ := κ) (κ' := va_up κ 10 cA) (N := ln X o) h ho (by omega) hlen (by omega) hX hC hL hS hXt hA i1 (zins_tl i2) h4 h5 K (zκ hS rfl hr.2) (fun ty hy => ?_) ?_ hP1 hD1 hV1
  · rw [hko] at hy ⊢; cases hy; rw [hup]; exact hr
  · rw [zcell_int hko (Or.inr rfl), hup]
    have : (fun i => if i < ln X o then zclr o mem (o + i) else 0) = fun _ => 0 := by
      funext i
      by_cases hi : i < ln X o
      · rw [if_pos hi, zclr_in hX mem (Or.inr ⟨by omega, by omega, hi⟩)]
      · rw [if_neg hi]
    rw [this]
theorem zE_anew {o idx : Nat} {n : Int32} (hd : decode (zmB y) pc = .ok (.anewarray idx, 3)) (hw : Cond.classLink (zmO y) idx "DishLift$House" ∈ zgd) (hko : kd o = 11) (hn : n = nI (ln X o)) (ho : o ∉ L) (hlen : L.length + 1 ≤ Lf.length)
    (h : zE X d y (pc + 3) ls (.ref o :: st) (zclr o mem) (zclk o lk) (L ++ [o]) lkf Lf Q) : zE X d y pc ls (.int n :: st) mem lk L lkf Lf Q := by
  intro p l e R s m args below meth c H locs cells slots A D κ φ Z la hX hC hL hS hXt hV hA i1 i2 h3 h4 h5 K
  have hle := ln_le (X := X) (o := o) (by omega)
  obtain ⟨n1, n2⟩ := nI_ok hle
  subst hn
  refine va_newq (C := "DishLift$House") hC.2.1 hC.2.2.1 hC.2.2.2.2.2.1 (hC.2.2.2.2.2.2.2.2.1 _ hw) hC.2.2.2.2.2.2.2.2.2.2.1.1 hS.2.2.1 hS.1 hS.2.1 hV hA n1 n2 (by omega) (by omega) (by omega) hd (fun q1 cA H1 hK1 hP1 hD1 hV1 => ?_)
  have hr : ArrOfT s cA (.object "DishLift$House") ∧ va_RA s cA (.object "DishLift$House") := hK1.2 0 _ rfl
  have hup : va_up κ 11 cA 11 = cA := if_pos rfl
  refine zE_made (κ := κ) (κ' := va_up κ 11 cA) (N := ln X o) h ho (by omega) hlen (by omega) hX hC hL hS hXt hA i1 (zins_tl i2) h4 h5 K (zκ hS rfl hr.2) (fun ty hy => ?_) ?_ hP1 hD1 hV1
  · rw [hko] at hy ⊢; cases hy; rw [hup]; exact hr
  · rw [zcell_ref hko (Or.inl rfl), hup]
    have : (fun i => if i < ln X o then (zclk o lk (o + i)).map (va_up φ o q1) else none) = fun _ => none := by
      funext i
      by_cases hi : i < ln X o
      · rw [if_pos hi, zclk_in hX lk (Or.inr ⟨by omega, by omega, hi⟩)]; rfl
      · rw [if_neg hi]
    rw [this]
theorem zE_ret {r : Option Value} {stk : List Value} (hs : stk = r.toList) (hr : zRet y pc r) (h1 : lk = lkf) (h2 : L = Lf) (h : Q r mem) : zE X d y pc ls stk mem lk L lkf Lf Q := by
  intro p l e R s m args below meth c H locs cells slots A D κ φ Z la hX hC hL hS hXt hV hA i1 i2 h3 h4 h5 K
  subst h1; subst h2; subst hs
  have k1 := K r mem H locs cells slots κ φ pc la h hS hXt hV (by omega) (by omega) (fun _ _ => rfl) (fun _ h => h) (fun v hv => i2 v (by rw [hv]; exact List.mem_cons_self)) hr
  rw [show (r.toList).map (ztr φ) = (r.map (ztr φ)).toList by cases r <;> rfl]
  exact k1
theorem zE_oinit {idx o : Nat} (hd : decode (zmB y) pc = .ok (.invokespecial idx, 3)) (hl1 : Cond.methodLink (zmO y) idx Lib.objectInit ∈ zgd) (hl2 : Cond.instanceMethod Lib.objectInit ∈ zgd) (hl3 : Cond.code Lib.objectInit ⟨#[0xb1]⟩ 1 none ∈ zgd) (hst : zcat st ≤ 8) (h : zE X d y (pc + 3) ls st mem lk L lkf Lf Q) : zE X d y pc ls (.ref o :: st) mem lk L lkf Lf Q :=
  zE_step h (fun a b => ⟨a, zins_tl b⟩) (fun p l e R s m args below meth c H locs cells slots φ Z la hC hL K => by
    have hcat : ((st.map (ztr φ)).map fun v => v.category).sum = zcat st := by
      unfold zcat
      rw [List.map_map]
      congr 1
      exact List.map_congr_left (fun v _ => ztr_cat φ v)
    have hd1 := hC.1
    have hf := hC.2.2.2.2.2.2.2.2.2.2.2.1
    have hlo := hC.2.2.2.2.2.2.2.2.2.2.2.2
    refine W.objInit hC.2.1 hC.2.2.1 hC.2.2.2.2.2.1 (hC.2.2.2.2.2.2.2.2.1 _ hl1) (hC.2.2.2.2.2.2.2.2.1 _ hl2) (hC.2.2.2.2.2.2.2.2.1 _ hl3) (g := F0 m pc la ((Value.ref o :: st).map (ztr φ))) rfl (hL.1.trans hC.2.2.2.2.1.symm) (a := φ o) (rest := st.map (ztr φ)) rfl hd (by omega) ?_ (K la hL)
    have := lv_room (m := m) (pc := pc) (ls := la) (rest := (Value.ref o :: st).map (ztr φ)) (st := st.map (ztr φ)) (by rw [hcat]; exact hst)
    omega)
end ZC
