/-! calls -/
/-- what the tables say of a method -/
def zMk (y : Nat) : Prop := (Cond.code (zmN y) (zmB y) (zmL y) (zmR y) ∈ zgd) ∧ (Cond.initialized (zmN y).cls ∈ zgd) ∧ ((zmN y).cls ≠ "java/lang/invoke/MethodHandle" ∧ (zmN y).cls ≠ "java/lang/invoke/VarHandle") ∧ zmL y ≤ 80 ∧ plainName (zmN y).cls = true
theorem zpop_ok : ∀ (n : Nat) (acc st args st' : List Value), zpop n acc st = some (args, st') → ∃ as, as.length = n ∧ args = as.reverse ++ acc ∧ st = as ++ st'
  | 0, acc, st, args, st', h => by cases h; exact ⟨[], rfl, rfl, rfl⟩
  | n + 1, acc, [], args, st', h => by cases h
  | n + 1, acc, v :: st, args, st', h => by
    obtain ⟨as, h1, h2, h3⟩ := zpop_ok n (v :: acc) st args st' h
    exact ⟨v :: as, by simp [h1], by rw [h2]; simp, by rw [h3]; rfl⟩
theorem zcat_tr (φ : Nat → Nat) (st : List Value) : ((st.map (ztr φ)).map fun v => v.category).sum = zcat st := by
  unfold zcat
  rw [List.map_map]
  congr 1
  exact List.map_congr_left (fun v _ => ztr_cat φ v)
theorem zXt_eq {X : Nat} {A : Nat → Prop} {φ φ' : Nat → Nat} {mem mem' : zMem} {s U : State} {H H1 : Heap} (h : zXt X A φ mem s H) (h' : zXt X A φ' mem' U H1) (hq : ∀ a : Nat, a < H.size → ¬ A a → H1[a]? = H[a]?) (hφ : ∀ o, kd o = 13 → φ' o = φ o) : ∀ o, kd o = 13 → ∀ i, i < ln X o → mem' (o + i) = mem (o + i) := by
  intro o ho i hi
  obtain ⟨c1, a1, a2, a3, a4, a5, a6, a7⟩ := h.1 o ho
  obtain ⟨c2, b1, b2, b3, b4, b5, b6, b7⟩ := h'.1 o ho
  rw [hφ o ho, hq _ (Array.getElem?_eq_some_iff.mp a1).1 a7, a1] at b1
  cases b1
  have e : some (Value.int (mem' (o + i))) = some (Value.int (mem (o + i))) := (b6 i hi).symm.trans (a6 i hi)
  injection e with e
  injection e with e
theorem znw_same {u U : State} (h : u.vm = U.vm) (hw : ∀ w ∈ znw, va_Nw w u) : ∀ w ∈ znw, va_Nw w U := fun w hm => by
  have hn := (List.mem_filter.mp hm).2
  have h1 := hw w hm
  cases w <;> first | (cases hn; done) | exact va_Nw.same rfl h h1
section ZV
variable {X d y pc : Nat} {ls st : List Value} {mem : zMem} {lk : zLk} {L : List Nat} {lkf : zLk} {Lf : List Nat} {Q : Option Value → zMem → Prop}
/-- behind a call -/
theorem zE_back {p : Program} {l : Launch} {e : Env} {R : Room} {s : State} {m : MethodId} {args : Array Value} {below : List Frame} {meth : Method} {c : Code} {H : Heap} {locs : List Loc} {cells slots : Nat} {A : Nat → Prop} {D : va_G} {φ : Nat → Nat} {Z : State → Prop} {la : Array Slot}
    {lk' : zLk} {L' : List Nat} {Q' : Option Value → zMem → Prop} {stk : List Value} {arr : Array Value}
    (hr : va_Run p l e R s m args below meth c H locs cells slots (L'.length - L.length) (1300 * (L'.length - L.length)) (F0 m pc la stk) (st.map (ztr φ)) (zPost X A D φ L lk' L' Q' arr) A)
    (hQ : ∀ r mem', Q' r mem' → zE X d y (pc + 3) ls (zpush r st) mem' lk' L' lkf Lf Q) (hl1 : L'.length ≤ Lf.length) (hl2 : L.length ≤ L'.length)
    (hX : X ≤ 3072) (hC : zCx d y p R s m args meth c) (hL : zLs φ (zmL y) ls la) (hXt : zXt X A φ mem s s.heap) (hV : va_S A s.heap H locs) (hA : ∀ q, s.heap.size ≤ q → A q) (i1 : zins L ls) (i2 : zins L st) (h4 : cells + (Lf.length - L.length) ≤ R.cells) (h5 : slots + 1300 * (Lf.length - L.length) ≤ R.slots)
    (K : ∀ (r : Option Value) (mem' : zMem) (H' : Heap) (locs' : List Loc) (cells' slots' : Nat) (κ' : Nat → ClassId) (φ' : Nat → Nat) (pc' : Nat) (la' : Array Slot),
      Q r mem' → zSm X A D κ' φ' mem' lkf Lf s H' → zXt X A φ' mem' s s.heap → va_S A s.heap H' locs' → cells' ≤ R.cells → slots' ≤ R.slots → (∀ o, o ∈ L ∨ kd o = 13 → φ' o = φ o) → (∀ o ∈ L, o ∈ Lf) → (∀ v, r = some v → zin Lf v) → zRet y pc' r →
      W p l e R s m args below meth c H' locs' cells' slots' Z (F0 m pc' la' (r.map (ztr φ')).toList)) :
    W p l e R s m args below meth c H locs cells slots Z (F0 m pc la stk) := by
  intro T hT XX
  obtain ⟨v, st₀, t, T', Lc, h0, X', hLc, e1, e2, ⟨⟨r, mem', κ', φ', hv, hq, hS', hX', hag, hsub, hrin⟩, hz, hk⟩, go⟩ := hr T hT XX
  cases hv
  rw [h0] at hz hk
  have hvm : s.vm.Alike t.vm := by rw [← e2]; exact X'.warmed.alike
  have hS2 : zSm X A D κ' φ' mem' lk' L' s T'.heap := by rw [e1]; exact hS'.moved hvm.symm
  have hkk : ∀ a : Nat, a < s.heap.size → ¬ A a → t.heap[a]? = s.heap[a]? := fun a g1 g2 => (hk a (Nat.lt_of_lt_of_le g1 hV.1) g2).trans (hV.2.1 a g1 g2)
  have hag13 : ∀ o, kd o = 13 → φ' o = φ o := fun o ho => hag o (Or.inr ho)
  have hX2 : zXt X A φ' mem' s s.heap := hXt.same hag13 (zXt_eq hXt hX' hkk hag13)
  have hV2 : va_S A s.heap T'.heap (locs ++ Lc) := ⟨Nat.le_trans hV.1 (by rw [e1]; exact hz), fun q g1 g2 => by rw [e1]; exact hkk q g1 g2, fun q hq => by
    rcases List.mem_append.mp hq with g | g
    · exact hV.2.2 q g
    · exact hLc q g⟩
  have hin : zins L' (zpush r st) := by
    cases r with
    | none => exact zins_mono hsub i2
    | some v => exact zins_cons (hrin v rfl) (zins_mono hsub i2)
  obtain ⟨t2, b1, b2⟩ := hQ r mem' hq p l e R s m args below meth c T'.heap (locs ++ Lc) (cells + (L'.length - L.length)) (slots + 1300 * (L'.length - L.length)) A D κ' φ' Z la hX hC (hL.agree hag i1) hS2 hX2 hV2 hA (zins_mono hsub i1) hin hl1 (by omega) (by omega)
    (fun r' mem'' H' locs' cells' slots' κ'' φ'' pc'' la' a1 a2 a3 a4 a5 a6 a7 a8 a9 a10 => K r' mem'' H' locs' cells' slots' κ'' φ'' pc'' la' a1 a2 a3 a4 a5 a6 (fun o' h' => (a7 o' (h'.imp (hsub o') id)).trans (hag o' h')) (fun o' h' => a8 o' (hsub o' h')) a9 a10) T' rfl X'
  refine ⟨t2, go t2 ?_, b2⟩
  have es : (zpush r st).map (ztr φ') = (r.map (ztr φ')).toList ++ st.map (ztr φ) := by
    cases r with
    | none => exact ztrs_agree hag i2
    | some v =>
      show ztr φ' v :: st.map (ztr φ') = ztr φ' v :: st.map (ztr φ)
      rw [ztrs_agree hag i2]
  rw [es] at b1
  exact b1
theorem zPre_blind {A : Nat → Prop} {D : va_G} {κ : Nat → ClassId} {φ : Nat → Nat} {av : List Value} {args : List Value} : FrameBlind (va_Pc av (zPre X A D κ φ args mem lk L)) := fun a U g mk h => by
  obtain ⟨h1, h2, h3, h4, h5, h6, h7, h8⟩ := h
  exact ⟨h1, h2, h3.moved (Vm.Alike.refl U.vm), h4.moved (Vm.Alike.refl U.vm), h5, h6, znw_same (u := U) (U := U.calling g mk a) rfl h7, va_AO.moved (u := U) (U := U.calling g mk a) (Vm.Alike.refl U.vm) h8.1, zA2.moved (u := U) (U := U.calling g mk a) (Vm.Alike.refl U.vm) h8.2⟩
theorem zPre_of {p : Program} {R : Room} {s : State} {m : MethodId} {args : Array Value} {meth : Method} {c : Code} {H : Heap} {locs : List Loc} {A : Nat → Prop} {D : va_G} {κ : Nat → ClassId} {φ : Nat → Nat} {as : List Value} (hX : X ≤ 3072) (hC : zCx d y p R s m args meth c) (hS : zSm X A D κ φ mem lk L s H) (hXt : zXt X A φ mem s s.heap) (hV : va_S A s.heap H locs) (hA : ∀ q, s.heap.size ≤ q → A q) (hi : zins L as) :
    ∀ U : State, U.heap = H → s.WarmedH U.vm → va_Pc (as.map (ztr φ)) (zPre X A D κ φ as mem lk L) (as.map (ztr φ)).toArray U := fun U hU hW => by
  refine ⟨rfl, hX, ?_, ?_, ?_, hi, znw_warm hW hC.2.2.2.2.2.2.2.2.2.1, va_AO.moved hW.alike hC.2.2.2.2.2.2.2.2.2.2.1.1, zA2.moved hW.alike hC.2.2.2.2.2.2.2.2.2.2.1.2⟩
  · rw [hU]; exact hS.moved hW.alike
  · rw [hU]; exact (hXt.kept hV.2.1).moved hW.alike
  · rw [hU]; exact fun q hq => hA q (Nat.le_trans hV.1 hq)
theorem zws_good {y' : Nat} (h : zMk y') : GoodIn zgd (zws y') := zgd_good _ (fun w hw => by
  rcases List.mem_cons.mp hw with e | e
  · rw [e]; exact h.1
  · exact e)
theorem zE_callS {y' n idx : Nat} {as : List Value} {lk' : zLk} {L' : List Nat} {Q' : Option Value → zMem → Prop} {stk : List Value} (hd : decode (zmB y) pc = .ok (.invokestatic idx, 3)) (hm : zMk y') (hl : Cond.methodLink (zmO y) idx (zmN y') ∈ zgd) (hst : Cond.static (zmN y') ∈ zgd) (hn : (parseMethodDescriptor (zmN y').desc).map (fun d => d.parameters.length) = some n)
    (hp : zpop n [] stk = some (as, st)) (hcat : zcat st ≤ 8) (hl1 : L'.length ≤ Lf.length) (hl2 : L.length ≤ L'.length) (hok : zOk X (d - 1) y' as mem lk L lk' L' Q') (hQ : ∀ r mem', Q' r mem' → zE X d y (pc + 3) ls (zpush r st) mem' lk' L' lkf Lf Q) : zE X d y pc ls stk mem lk L lkf Lf Q := by
  intro p l e R s m args below meth c H locs cells slots A D κ φ Z la hX hC hL hS hXt hV hA i1 i2 h3 h4 h5 K
  obtain ⟨ra, q1, q2, q3⟩ := zpop_ok _ _ _ _ _ hp
  rw [List.append_nil] at q2
  have hia : zins L as := fun v hv => i2 v (by rw [q3]; exact List.mem_append_left _ (by rw [q2] at hv; exact List.mem_reverse.mp hv))
  have hit : zins L st := fun v hv => i2 v (by rw [q3]; exact List.mem_append_right _ hv)
  obtain ⟨hd0, hM⟩ := hok
  have hf := hC.2.2.2.2.2.2.2.2.2.2.2.1
  have hlo := hC.2.2.2.2.2.2.2.2.2.2.2.2
  have hml := hm.2.2.2.1
  have hlas : (as.map (ztr φ)).length = n := by rw [List.length_map, q2, List.length_reverse]; exact q1
  have hstk : stk.map (ztr φ) = (as.map (ztr φ)).reverse ++ st.map (ztr φ) := by rw [q3, q2, List.map_append, List.map_reverse, List.reverse_reverse]
  refine zE_back (st := st) (va_runS (ws := zws y') (rm := zRm (d - 1) (L'.length - L.length)) (As := as.map (ztr φ)) (rest := st.map (ztr φ)) ⟨hC.2.1, hC.2.2.1, hC.2.2.2.2.1, hC.2.2.2.2.2.1, hC.2.2.2.2.2.2.2.2.1⟩ (hM l A D κ φ)
    ⟨callB_of n hC.2.2.2.2.2.2.2.2.1 (zws_good hm) rfl rfl rfl (hC.2.2.2.2.2.2.2.2.1 _ hm.2.1) (hC.2.2.2.2.2.2.2.2.1 _ hl) ⟨hm.2.2.1.1, hm.2.2.1.2, hn⟩ ⟨by show d - 1 + 1 ≤ R.frames; omega, by show 8 + (zmL y' + 11) + 100 * (d - 1) ≤ R.locals; omega⟩, hC.2.2.2.2.2.2.2.2.1 _ hst⟩
    ⟨zPre_blind, zPre_of hX hC hS hXt hV hA hia⟩ rfl hlas hL.1 hstk (lv_room (by rw [zcat_tr]; exact hcat)) hd ⟨by omega, by omega⟩) hQ hl1 hl2 hX hC hL hXt hV hA i1 hit h4 h5 K
theorem zE_callV {y' n idx o : Nat} {q : vw_C} {as : List Value} {lk' : zLk} {L' : List Nat} {Q' : Option Value → zMem → Prop} {stk : List Value} (hd : decode (zmB y) pc = .ok (.invokevirtual idx, 3)) (hm : zMk y') (hl : Cond.methodLink (zmO y) idx (zmN y') ∈ zgd) (hin : Cond.instanceMethod (zmN y') ∈ zgd) (hse : Cond.selects (zmN y').cls (zmN y') (zmN y') ∈ zgd) (hn : (parseMethodDescriptor (zmN y').desc).map (fun d => d.parameters.length) = some n) (hc : vwCl[kd o]? = some q) (hqc : q.1 = (zmN y').cls)
    (hp : zpop (n + 1) [] stk = some (.ref o :: as, st)) (hcat : zcat st ≤ 8) (hl1 : L'.length ≤ Lf.length) (hl2 : L.length ≤ L'.length) (hok : zOk X (d - 1) y' (.ref o :: as) mem lk L lk' L' Q') (hQ : ∀ r mem', Q' r mem' → zE X d y (pc + 3) ls (zpush r st) mem' lk' L' lkf Lf Q) : zE X d y pc ls stk mem lk L lkf Lf Q := by
  intro p l e R s m args below meth c H locs cells slots A D κ φ Z la hX hC hL hS hXt hV hA i1 i2 h3 h4 h5 K
  obtain ⟨ra, q1, q2, q3⟩ := zpop_ok _ _ _ _ _ hp
  rw [List.append_nil] at q2
  have hia : zins L (.ref o :: as) := fun v hv => i2 v (by rw [q3]; exact List.mem_append_left _ (by rw [q2] at hv; exact List.mem_reverse.mp hv))
  have hit : zins L st := fun v hv => i2 v (by rw [q3]; exact List.mem_append_right _ hv)
  obtain ⟨hd0, hM⟩ := hok
  have hf := hC.2.2.2.2.2.2.2.2.2.2.2.1
  have hlo := hC.2.2.2.2.2.2.2.2.2.2.2.2
  have hml := hm.2.2.2.1
  have hlas : (as.map (ztr φ)).length = n := by
    have : (Value.ref o :: as).length = n + 1 := by rw [q2, List.length_reverse]; exact q1
    rw [List.length_map]; simpa using this
  have hstk : stk.map (ztr φ) = (as.map (ztr φ)).reverse ++ .ref (φ o) :: st.map (ztr φ) := by
    have h1 : ra = as.reverse ++ [.ref o] := by
      have := congrArg List.reverse q2
      rw [List.reverse_reverse] at this
      rw [← this]; simp
    rw [q3, h1]; simp [ztr]
  have h9 := zlt9 hc
  have hoL : o ∈ L := (zins_hd hia).resolve_right (by omega)
  obtain ⟨q0, hq0⟩ := List.mem_iff_getElem?.mp hoL
  have he := zW_get (X := X) (κ := κ) (φ := φ) (mem := mem) (lk := lk) hq0
  rw [zcell_obj rfl h9] at he
  have hrecv := va_recv hS.2.2.1 hS.1 hc he
  rw [hqc] at hrecv
  refine zE_back (st := st) (va_runV (C := (zmN y').cls) (b := φ o) (ws := zws y') (rm := zRm (d - 1) (L'.length - L.length)) (As := as.map (ztr φ)) (rest := st.map (ztr φ)) ⟨hC.2.1, hC.2.2.1, hC.2.2.2.2.1, hC.2.2.2.2.2.1, hC.2.2.2.2.2.2.2.2.1⟩ (hM l A D κ φ)
    ⟨callB_of n hC.2.2.2.2.2.2.2.2.1 (zws_good hm) rfl rfl rfl (hC.2.2.2.2.2.2.2.2.1 _ hm.2.1) (hC.2.2.2.2.2.2.2.2.1 _ hl) ⟨hm.2.2.1.1, hm.2.2.1.2, hn⟩ ⟨by show d - 1 + 1 ≤ R.frames; omega, by show 8 + (zmL y' + 11) + 100 * (d - 1) ≤ R.locals; omega⟩, hC.2.2.2.2.2.2.2.2.1 _ hin, hC.2.2.2.2.2.2.2.2.1 _ hse⟩
    ⟨zPre_blind, hrecv, zPre_of hX hC hS hXt hV hA hia⟩ rfl hlas hL.1 hstk (lv_room (by rw [zcat_tr]; exact hcat)) hd ⟨by omega, by omega⟩) hQ hl1 hl2 hX hC hL hXt hV hA i1 hit h4 h5 K
theorem zE_callI {y' n idx o : Nat} {as : List Value} {lk' : zLk} {L' : List Nat} {Q' : Option Value → zMem → Prop} {stk : List Value} (hd : decode (zmB y) pc = .ok (.invokespecial idx, 3)) (hm : zMk y') (hl : Cond.methodLink (zmO y) idx (zmN y') ∈ zgd) (hin : Cond.instanceMethod (zmN y') ∈ zgd) (hni : (zmN y').name = "<init>") (hrn : zmR y' = none) (hn : (parseMethodDescriptor (zmN y').desc).map (fun d => d.parameters.length) = some n)
    (hp : zpop (n + 1) [] stk = some (.ref o :: as, st)) (hcat : zcat st ≤ 8) (hl1 : L'.length ≤ Lf.length) (hl2 : L.length ≤ L'.length) (hok : zOk X (d - 1) y' (.ref o :: as) mem lk L lk' L' Q') (hQ : ∀ r mem', Q' r mem' → zE X d y (pc + 3) ls (zpush r st) mem' lk' L' lkf Lf Q) : zE X d y pc ls stk mem lk L lkf Lf Q := by
  intro p l e R s m args below meth c H locs cells slots A D κ φ Z la hX hC hL hS hXt hV hA i1 i2 h3 h4 h5 K
  obtain ⟨ra, q1, q2, q3⟩ := zpop_ok _ _ _ _ _ hp
  rw [List.append_nil] at q2
  have hia : zins L (.ref o :: as) := fun v hv => i2 v (by rw [q3]; exact List.mem_append_left _ (by rw [q2] at hv; exact List.mem_reverse.mp hv))
  have hit : zins L st := fun v hv => i2 v (by rw [q3]; exact List.mem_append_right _ hv)
  obtain ⟨hd0, hM⟩ := hok
  have hf := hC.2.2.2.2.2.2.2.2.2.2.2.1
  have hlo := hC.2.2.2.2.2.2.2.2.2.2.2.2
  have hml := hm.2.2.2.1
  have hlas : (as.map (ztr φ)).length = n := by
    have : (Value.ref o :: as).length = n + 1 := by rw [q2, List.length_reverse]; exact q1
    rw [List.length_map]; simpa using this
  have hstk : stk.map (ztr φ) = (as.map (ztr φ)).reverse ++ .ref (φ o) :: st.map (ztr φ) := by
    have h1 : ra = as.reverse ++ [.ref o] := by
      have := congrArg List.reverse q2
      rw [List.reverse_reverse] at this
      rw [← this]; simp
    rw [q3, h1]; simp [ztr]
  refine zE_back (st := st) (va_runI (bytes := zmB y') (maxL := zmL y') (b := φ o) (ws := zws y') (rm := zRm (d - 1) (L'.length - L.length)) (As := as.map (ztr φ)) (rest := st.map (ztr φ)) ⟨hC.2.1, hC.2.2.1, hC.2.2.2.2.1, hC.2.2.2.2.2.1, hC.2.2.2.2.2.2.2.2.1⟩ (hM l A D κ φ)
    ⟨callB_of n hC.2.2.2.2.2.2.2.2.1 (zws_good hm) (by rw [← hrn]; rfl) rfl rfl (hC.2.2.2.2.2.2.2.2.1 _ hm.2.1) (hC.2.2.2.2.2.2.2.2.1 _ hl) ⟨hm.2.2.1.1, hm.2.2.1.2, hn⟩ ⟨by show d - 1 + 1 ≤ R.frames; omega, by show 8 + (zmL y' + 11) + 100 * (d - 1) ≤ R.locals; omega⟩, hni, hC.2.2.2.2.2.2.2.2.1 _ hin⟩
    ⟨zPre_blind, zPre_of hX hC hS hXt hV hA hia⟩ rfl hlas hL.1 hstk (lv_room (by rw [zcat_tr]; exact hcat)) hd ⟨by omega, by omega⟩) hQ hl1 hl2 hX hC hL hXt hV hA i1 hit h4 h5 K
theorem zE_callN {y' n idx o : Nat} {host : String} {as : List Value} {lk' : zLk} {L' : List Nat} {Q' : Option Value → zMem → Prop} {stk : List Value} (hd : decode (zmB y) pc = .ok (.invokespecial idx, 3)) (hm : zMk y') (hl : Cond.methodLinkNest (zmO y) idx (zmN y') host ∈ znw) (hin : Cond.instanceMethod (zmN y') ∈ zgd) (hni : (zmN y').name = "<init>") (hrn : zmR y' = none) (hn : (parseMethodDescriptor (zmN y').desc).map (fun d => d.parameters.length) = some n)
    (hp : zpop (n + 1) [] stk = some (.ref o :: as, st)) (hcat : zcat st ≤ 8) (hl1 : L'.length ≤ Lf.length) (hl2 : L.length ≤ L'.length) (hok : zOk X (d - 1) y' (.ref o :: as) mem lk L lk' L' Q') (hQ : ∀ r mem', Q' r mem' → zE X d y (pc + 3) ls (zpush r st) mem' lk' L' lkf Lf Q) : zE X d y pc ls stk mem lk L lkf Lf Q := by
  intro p l e R s m args below meth c H locs cells slots A D κ φ Z la hX hC hL hS hXt hV hA i1 i2 h3 h4 h5 K
  obtain ⟨ra, q1, q2, q3⟩ := zpop_ok _ _ _ _ _ hp
  rw [List.append_nil] at q2
  have hia : zins L (.ref o :: as) := fun v hv => i2 v (by rw [q3]; exact List.mem_append_left _ (by rw [q2] at hv; exact List.mem_reverse.mp hv))
  have hit : zins L st := fun v hv => i2 v (by rw [q3]; exact List.mem_append_right _ hv)
  obtain ⟨hd0, hM⟩ := hok
  have hf := hC.2.2.2.2.2.2.2.2.2.2.2.1
  have hlo := hC.2.2.2.2.2.2.2.2.2.2.2.2
  have hml := hm.2.2.2.1
  have hlas : (as.map (ztr φ)).length = n := by
    have : (Value.ref o :: as).length = n + 1 := by rw [q2, List.length_reverse]; exact q1
    rw [List.length_map]; simpa using this
  have hstk : stk.map (ztr φ) = (as.map (ztr φ)).reverse ++ .ref (φ o) :: st.map (ztr φ) := by
    have h1 : ra = as.reverse ++ [.ref o] := by
      have := congrArg List.reverse q2
      rw [List.reverse_reverse] at this
      rw [← this]; simp
    rw [q3, h1]; simp [ztr]
  refine zE_back (st := st) (va_runIN (bytes := zmB y') (maxL := zmL y') (b := φ o) (ws := zws y') (rm := zRm (d - 1) (L'.length - L.length)) (As := as.map (ztr φ)) (rest := st.map (ztr φ)) ⟨hC.2.1, hC.2.2.1, hC.2.2.2.2.1, hC.2.2.2.2.2.1, hC.2.2.2.2.2.2.2.2.1⟩ (hM l A D κ φ)
    ⟨va_cnB n hC.2.2.2.2.2.2.2.2.1 (zws_good hm) (by rw [← hrn]; rfl) rfl rfl (hC.2.2.2.2.2.2.2.2.2.1 _ hl) (hC.2.2.2.2.2.2.2.2.1 _ hm.2.1) ⟨hm.2.2.1.1, hm.2.2.1.2, hn⟩ ⟨by show d - 1 + 1 ≤ R.frames; omega, by show 8 + (zmL y' + 11) + 100 * (d - 1) ≤ R.locals; omega⟩, hni, hC.2.2.2.2.2.2.2.2.1 _ hin⟩
    ⟨zPre_blind, zPre_of hX hC hS hXt hV hA hia⟩ rfl hlas hL.1 hstk (lv_room (by rw [zcat_tr]; exact hcat)) hd ⟨by omega, by omega⟩) hQ hl1 hl2 hX hC hL hXt hV hA i1 hit h4 h5 K
end ZV
