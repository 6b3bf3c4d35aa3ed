/-! a method's contract out of the walk of its body; the checks of rows; rows as a condition are sound -/
theorem zargs_lv (φ : Nat → Nat) : ∀ (as : List Value) (k i : Nat) (v : Value), (zargs as)[i]? = some v → v ≠ zU → (k + i, ztr φ v) ∈ lv_args k (as.map (ztr φ))
  | [], k, i, v, h, _ => by cases i <;> cases h
  | w :: as, k, i, v, h, hv => by
    have two : ∀ x : Value, x.category = 2 → (x :: zU :: zargs as)[i]? = some v → (k + i, ztr φ v) ∈ lv_args k ((x :: as).map (ztr φ)) := fun x hx h => by
      have he : lv_args k ((x :: as).map (ztr φ)) = (k, ztr φ x) :: lv_args (k + 2) (as.map (ztr φ)) := by
        show (k, ztr φ x) :: lv_args (if (ztr φ x).category = 2 then k + 2 else k + 1) _ = _
        rw [ztr_cat, if_pos hx]
      rw [he]
      match i, h with
      | 0, h => cases h; exact List.mem_cons_self
      | 1, h => cases h; exact absurd rfl hv
      | i + 2, h =>
        have := zargs_lv φ as (k + 2) i v h hv
        rw [show k + (i + 2) = k + 2 + i by omega]
        exact List.mem_cons_of_mem _ this
    have one : ∀ x : Value, ¬ x.category = 2 → (x :: zargs as)[i]? = some v → (k + i, ztr φ v) ∈ lv_args k ((x :: as).map (ztr φ)) := fun x hx h => by
      have he : lv_args k ((x :: as).map (ztr φ)) = (k, ztr φ x) :: lv_args (k + 1) (as.map (ztr φ)) := by
        show (k, ztr φ x) :: lv_args (if (ztr φ x).category = 2 then k + 2 else k + 1) _ = _
        rw [ztr_cat, if_neg hx]
      rw [he]
      match i, h with
      | 0, h => cases h; exact List.mem_cons_self
      | i + 1, h =>
        have := zargs_lv φ as (k + 1) i v h hv
        rw [show k + (i + 1) = k + 1 + i by omega]
        exact List.mem_cons_of_mem _ this
    cases w with
    | long x => exact two _ rfl h
    | double x => exact two _ rfl h
    | int x => exact one _ (by simp [Value.category]) h
    | float x => exact one _ (by simp [Value.category]) h
    | null => exact one _ (by simp [Value.category]) h
    | ref x => exact one _ (by simp [Value.category]) h
    | retAddr x => exact one _ (by simp [Value.category]) h
theorem zargs_len (φ : Nat → Nat) : ∀ as : List Value, (lg_sl (as.map (ztr φ))).length = (zargs as).length
  | [] => rfl
  | w :: as => by
    have ih := zargs_len φ as
    have e : lg_sl ((w :: as).map (ztr φ)) = (if (ztr φ w).category = 2 then [.val (ztr φ w), .second] else [.val (ztr φ w)]) ++ lg_sl (as.map (ztr φ)) := rfl
    rw [e, List.length_append, ih, ztr_cat]
    cases w <;> simp [Value.category, zargs] <;> omega
theorem zLs_entry (φ : Nat → Nat) (as : List Value) {n : Nat} (h : (zargs as).length ≤ n) : zLs φ n (zpad n (zargs as)) (lg_sl (as.map (ztr φ)) ++ List.replicate (n - (lg_sl (as.map (ztr φ))).length) Slot.unset).toArray := by
  have hl := lv_entry (as.map (ztr φ)) (n := n) (by rw [zargs_len]; exact h)
  refine ⟨hl.1, hl.2.1, ?_, fun i v hi hv => ?_⟩
  · unfold zpad
    rw [List.length_append, List.length_replicate]
    omega
  · unfold zpad at hi
    rw [List.getElem?_append] at hi
    by_cases hlt : i < (zargs as).length
    · rw [if_pos hlt] at hi
      have := hl.2.2 _ (zargs_lv φ as 0 i v hi hv)
      rw [show 0 + i = i by omega] at this
      exact this
    · rw [if_neg hlt] at hi
      exact absurd (List.eq_of_mem_replicate (List.mem_of_getElem? hi)) hv
section ZO
variable {X d y pc : Nat} {ls st : List Value} {mem : zMem} {lk : zLk} {L : List Nat} {lkf : zLk} {Lf : List Nat} {Q : Option Value → zMem → Prop}
theorem zins_pad {L : List Nat} {as : List Value} {n : Nat} (h : zins L as) : zins L (zpad n (zargs as)) := by
  have g : ∀ as : List Value, zins L as → zins L (zargs as) := by
    intro as
    induction as with
    | nil => exact fun h => h
    | cons w as ih =>
      intro h
      have h1 := zins_hd h
      have h2 := ih (zins_tl h)
      cases w <;> first | exact zins_cons h1 (zins_cons trivial h2) | exact zins_cons h1 h2
  intro v hv
  rcases List.mem_append.mp hv with e | e
  · exact g as h v e
  · rw [List.eq_of_mem_replicate e]; trivial
theorem zOk_of {as : List Value} (hm : zMk y) (hown : zmO y = (zmN y).cls) (hd : 0 < d) (hlen : L.length ≤ Lf.length) (hsz : (zargs as).length ≤ zmL y) (h : zE X d y 0 (zpad (zmL y) (zargs as)) [] mem lk L lkf Lf Q) : zOk X d y as mem lk L lkf Lf Q := by
  refine ⟨hd, fun l A D κ φ => Met.ofW (cc := zmB y) (maxL := zmL y) (ret := zmR y) hm.2.2.2.2 rfl ?_⟩
  intro p e s m args below meth c s₁ B hml hv
  obtain ⟨rfl, hX, hS, hXt, hA, hi, hnw, hao⟩ := hv
  have hts0 := atoms_spec (ws := zws y) B.pre
  have hC : zCx d y p (headSpec (zws y) (zRm d (Lf.length - L.length))).room s m (as.map (ztr φ)).toArray meth c :=
    ⟨hd, B.exec, B.bytes, B.returns, hml, by rw [hown]; exact findClass_of_methodNamed B.named, B.notSynchronized, (name_of_methodNamed B.named B.method).1, fun w hw => hts0 w (List.mem_cons_of_mem _ hw), hnw, hao, Nat.le_refl _, Nat.le_refl _⟩
  rw [lg_entry_eq]
  refine h p l e _ s m _ below meth c s.heap [] 0 0 A D κ φ _ _ hX hC (zLs_entry φ as hsz) hS hXt va_S.rf hA (zins_pad hi) (fun v hv => by cases hv) hlen (by show 0 + _ ≤ Lf.length - L.length; omega) (by show 0 + _ ≤ 1300 * (Lf.length - L.length); omega) ?_
  intro r mem' H' locs' cells' slots' κ' φ' pc' la' hQ hS' hX' hV' hc hs hag hsub hrin hret
  refine W.widen (k := Lf.length - L.length) (n := 1300 * (Lf.length - L.length)) hc hs ?_
  have hq : ∀ t : State, t.heap = H' → s.WarmedH t.vm → zPost X A D φ L lkf Lf Q (as.map (ztr φ)).toArray s (.returned (r.map (ztr φ'))) t := fun t ht hW => by
    refine ⟨⟨r, mem', κ', φ', rfl, hQ, ?_, ?_, hag, hsub, hrin⟩, hV'.F ht⟩
    · rw [ht]; exact hS'.moved hW.alike
    · rw [ht]; exact (hX'.kept hV'.2.1).moved hW.alike
  have hx := B.exec
  have hb := B.bytes
  have hrt := B.returns
  have hlocks := B.notSynchronized
  match r, hret, hq with
  | none, hret, hq => exact W.vret hx hb (by rw [hrt]; exact hret.2) hq hV'.2.2 hret.1
  | some (.int v), hret, hq =>
    rcases hret.2 with g | g
    · exact W.iret hx hb (by rw [hrt]; exact g) hq hV'.2.2 hret.1
    · exact W.zret hx hb (by rw [hrt]; exact g.1) g.2 hq hV'.2.2 hret.1
  | some (.long v), hret, hq => exact W.lret hx hb (by rw [hrt]; exact hret.2) hq hV'.2.2 hret.1
  | some (.ref v), hret, hq =>
    obtain ⟨C, g⟩ := hret.2
    exact W.aret (rt := .object C) hx hb (by rw [hrt]; exact g) (Or.inl ⟨C, rfl⟩) (Or.inr ⟨_, rfl⟩) hq hV'.2.2 hret.1
theorem zSm.stm {A : Nat → Prop} {D : va_G} {κ : Nat → ClassId} {φ : Nat → Nat} {mem' : zMem} {s : State} {H H1 : Heap} (h : zSm X A D κ φ mem lk L s H) {k o : Nat} (hk : L[k]? = some o) (hne : ∀ o' ∈ L, o' ≠ o → ∀ j, zhas X o' j → mem' (o' + j) = mem (o' + j))
    (hP : va_P D vwCl ((zW X κ φ mem lk L).set k (φ o, zcell X κ φ mem' lk o)) H1) (hD : va_D A ((zW X κ φ mem lk L).set k (φ o, zcell X κ φ mem' lk o))) : zSm X A D κ φ mem' lk L s H1 := by
  have e := zW_set (X := X) (κ := κ) (φ := φ) (mem := mem) (mem' := mem') (lk := lk) (lk' := lk) hk (fun i hi => h.inj hi hk) (fun o' ho' hn => zcell_congr (h.2.2.2.2.1 o' ho') (hne o' ho' hn) (fun _ _ => rfl) (fun _ => rfl))
  rw [e] at hP hD
  exact ⟨hP, hD, h.2.2.1, h.2.2.2.1, h.2.2.2.2.1, h.2.2.2.2.2⟩
theorem zE_copy {idx f g : Nat} {n dp sp : Int32} (hd : decode (zmB y) pc = .ok (.invokestatic idx, 3)) (hl1 : Cond.methodLink (zmO y) idx arraycopyName ∈ zgd) (hl2 : Cond.native arraycopyName ∈ zgd) (hl3 : Cond.static arraycopyName ∈ zgd) (hl4 : Cond.initialized "java/lang/System" ∈ zgd) (hcat : zcat st ≤ 8)
    (hf : kd f = 9) (hg : kd g = 9) (h1 : ¬ sp < 0) (h2 : ¬ dp < 0) (h3 : ¬ n < 0) (h4 : sp.toNatClampNeg + n.toNatClampNeg ≤ ln X f) (h5 : dp.toNatClampNeg + n.toNatClampNeg ≤ ln X g)
    (h : zE X d y (pc + 3) ls st (fun x => if g + dp.toNatClampNeg ≤ x ∧ x < g + dp.toNatClampNeg + n.toNatClampNeg then mem (f + sp.toNatClampNeg + (x - (g + dp.toNatClampNeg))) else mem x) lk L lkf Lf Q) : zE X d y pc ls (.int n :: .int dp :: .ref g :: .int sp :: .ref f :: st) mem lk L lkf Lf Q := by
  intro p l e R s m args below meth c H locs cells slots A D κ φ Z la hX hC hL hS hXt hV hA i1 i2 a3 a4 a5 K
  have hfr := hC.2.2.2.2.2.2.2.2.2.2.2.1
  have hlo := hC.2.2.2.2.2.2.2.2.2.2.2.2
  have hd0 := hC.1
  have hgL : g ∈ L := (zins_hd (zins_tl (zins_tl i2))).resolve_right (by omega)
  have hfL : f ∈ L := (zins_hd (zins_tl (zins_tl (zins_tl (zins_tl i2))))).resolve_right (by omega)
  obtain ⟨q0, hq0⟩ := List.mem_iff_getElem?.mp hfL
  obtain ⟨q1, hq1⟩ := List.mem_iff_getElem?.mp hgL
  have he0 := zW_get (X := X) (κ := κ) (φ := φ) (mem := mem) (lk := lk) hq0
  have he1 := zW_get (X := X) (κ := κ) (φ := φ) (mem := mem) (lk := lk) hq1
  rw [zcell_int hf (Or.inl rfl)] at he0
  rw [zcell_int hg (Or.inl rfl)] at he1
  have hK := zK1 hS hgL (ty := .int) (by rw [hg]; rfl)
  rw [hg] at hK
  have hwords : ∀ i, i < ln X g → zhas X g i := fun i hi => Or.inr ⟨by omega, by omega, hi⟩
  have hout : ∀ o' j, zhas X o' j → o' ≠ g → ¬ (g + dp.toNatClampNeg ≤ o' + j ∧ o' + j < g + dp.toNatClampNeg + n.toNatClampNeg) := fun o' j hj hne q => by
    have := mo_ne hX (hwords (o' + j - g) (by omega)) hj hne
    omega
  have hf2 : va_cpy (fun i => if i < ln X f then mem (f + i) else 0) (fun i => if i < ln X g then mem (g + i) else 0) sp.toNatClampNeg dp.toNatClampNeg n.toNatClampNeg = (fun i => if i < ln X g then (if g + dp.toNatClampNeg ≤ g + i ∧ g + i < g + dp.toNatClampNeg + n.toNatClampNeg then mem (f + sp.toNatClampNeg + (g + i - (g + dp.toNatClampNeg))) else mem (g + i)) else 0) := by
    funext i
    show (if dp.toNatClampNeg ≤ i ∧ i < dp.toNatClampNeg + n.toNatClampNeg then (if sp.toNatClampNeg + (i - dp.toNatClampNeg) < ln X f then mem (f + (sp.toNatClampNeg + (i - dp.toNatClampNeg))) else 0) else (if i < ln X g then mem (g + i) else 0)) = _
    by_cases hi : dp.toNatClampNeg ≤ i ∧ i < dp.toNatClampNeg + n.toNatClampNeg
    · rw [if_pos hi, if_pos (by omega), if_pos (by omega), if_pos (by omega)]
      congr 1
      omega
    · rw [if_neg hi]
      by_cases hi2 : i < ln X g
      · rw [if_pos hi2, if_pos hi2, if_neg (by omega)]
      · rw [if_neg hi2, if_neg hi2]
  refine va_copyi (ty := .int) hC.2.1 hC.2.2.1 (hC.2.2.2.2.1.trans hL.1.symm) hC.2.2.2.2.2.1 (hC.2.2.2.2.2.2.2.2.1 _ hl1) (hC.2.2.2.2.2.2.2.2.1 _ hl2) (hC.2.2.2.2.2.2.2.2.1 _ hl3) (hC.2.2.2.2.2.2.2.2.1 _ hl4) hK hS.1 hS.2.1 hV q0 q1 0 0 he0 he1 rfl rfl rfl h1 h2 h3 h4 h5 (fun _ _ => rfl) (by omega) ?_ hd (fun H1 locs1 hP1 hD1 hV1 => ?_)
  · rw [zcat_tr]
    have : nativeFrameWords "java/lang/System" "arraycopy" 5 = 7 := by decide +kernel
    omega
  · rw [hf2, ← zcell_int (κ := κ) (φ := φ) (mem := fun x => if g + dp.toNatClampNeg ≤ x ∧ x < g + dp.toNatClampNeg + n.toNatClampNeg then mem (f + sp.toNatClampNeg + (x - (g + dp.toNatClampNeg))) else mem x) (lk := lk) hg (Or.inl rfl)] at hP1 hD1
    exact h p l e R s m args below meth c H1 locs1 cells slots A D κ φ Z la hX hC hL (hS.stm hq1 (fun o' ho' hne j hj => if_neg (hout o' j hj hne)) hP1 hD1) (hXt.same (fun _ _ => rfl) (fun o' ho' i hi => if_neg (hout o' i (Or.inr ⟨by omega, by omega, hi⟩) (fun e => by subst e; omega)))) hV1 hA i1 (zins_tl (zins_tl (zins_tl (zins_tl (zins_tl i2))))) a3 a4 a5 K
end ZO
