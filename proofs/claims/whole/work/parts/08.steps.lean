section ZE
variable {X d y pc : Nat} {ls st : List Value} {mem : zMem} {lk : zLk} {L : List Nat} {lkf : zLk} {Lf : List Nat} {Q : Option Value → zMem → Prop}
theorem zE_step {pc' : Nat} {ls' st' : List Value} (h : zE X d y pc' ls' st' mem lk L lkf Lf Q) (hi : zins L ls → zins L st → zins L ls' ∧ zins L st')
    (hw : ∀ (p : Program) (l : Launch) (e : Env) (R : Room) (s : State) (m : MethodId) (args : Array Value) (below : List Frame) (meth : Method) (c : Code) (H : Heap) (locs : List Loc) (cells slots : Nat) (φ : Nat → Nat) (Z : State → Prop) (la : Array Slot),
      zCx d y p R s m args meth c → zLs φ (zmL y) ls la → (∀ la', zLs φ (zmL y) ls' la' → W p l e R s m args below meth c H locs cells slots Z (F0 m pc' la' (st'.map (ztr φ)))) → W p l e R s m args below meth c H locs cells slots Z (F0 m pc la (st.map (ztr φ)))) :
    zE X d y pc ls st mem lk L lkf Lf Q := by
  intro p l e R s m args below meth c H locs cells slots A D κ φ Z la hX hC hL hS hXt hV hA h1 h2 h3 h4 h5 K
  obtain ⟨i1, i2⟩ := hi h1 h2
  exact hw p l e R s m args below meth c H locs cells slots φ Z la hC hL (fun la' hL' => h p l e R s m args below meth c H locs cells slots A D κ φ Z la' hX hC hL' hS hXt hV hA i1 i2 h3 h4 h5 K)
/-- two ways on -/
theorem zE_two {c1 : Prop} {pc1 pc2 : Nat} {st' : List Value} (h1 : c1 → zE X d y pc1 ls st' mem lk L lkf Lf Q) (h2 : ¬ c1 → zE X d y pc2 ls st' mem lk L lkf Lf Q) (hi : zins L st → zins L st')
    (hw : ∀ (p : Program) (l : Launch) (e : Env) (R : Room) (s : State) (m : MethodId) (args : Array Value) (below : List Frame) (meth : Method) (c : Code) (H : Heap) (locs : List Loc) (cells slots : Nat) (φ : Nat → Nat) (Z : State → Prop) (la : Array Slot),
      zCx d y p R s m args meth c → (c1 → W p l e R s m args below meth c H locs cells slots Z (F0 m pc1 la (st'.map (ztr φ)))) → (¬ c1 → W p l e R s m args below meth c H locs cells slots Z (F0 m pc2 la (st'.map (ztr φ)))) → W p l e R s m args below meth c H locs cells slots Z (F0 m pc la (st.map (ztr φ)))) :
    zE X d y pc ls st mem lk L lkf Lf Q := by
  intro p l e R s m args below meth c H locs cells slots A D κ φ Z la hX hC hL hS hXt hV hA i1 i2 h3 h4 h5 K
  exact hw p l e R s m args below meth c H locs cells slots φ Z la hC (fun hc => h1 hc p l e R s m args below meth c H locs cells slots A D κ φ Z la hX hC hL hS hXt hV hA i1 (hi i2) h3 h4 h5 K) (fun hc => h2 hc p l e R s m args below meth c H locs cells slots A D κ φ Z la hX hC hL hS hXt hV hA i1 (hi i2) h3 h4 h5 K)
theorem zE_iconst {n : Int} {v : Int32} (hd : decode (zmB y) pc = .ok (.iconst n, 1)) (hv : Int32.ofInt n = v) (h : zE X d y (pc + 1) ls (.int v :: st) mem lk L lkf Lf Q) : zE X d y pc ls st mem lk L lkf Lf Q :=
  zE_step h (fun a b => ⟨a, zins_cons trivial b⟩) (fun _ _ _ _ _ _ _ _ _ _ _ _ _ _ _ _ la hC hL K => lv_iconst hC.2.1 hC.2.2.1 hd hv (K la hL))
theorem zE_bipush {n : Int} {v : Int32} (hd : decode (zmB y) pc = .ok (.bipush n, 2)) (hv : (Int8.ofInt n).toInt32 = v) (h : zE X d y (pc + 2) ls (.int v :: st) mem lk L lkf Lf Q) : zE X d y pc ls st mem lk L lkf Lf Q :=
  zE_step h (fun a b => ⟨a, zins_cons trivial b⟩) (fun _ _ _ _ _ _ _ _ _ _ _ _ _ _ _ _ la hC hL K => lv_bipush hC.2.1 hC.2.2.1 hd hv (K la hL))
theorem zE_sipush {n : Int} {v : Int32} (hd : decode (zmB y) pc = .ok (.sipush n, 3)) (hv : (Int16.ofInt n).toInt32 = v) (h : zE X d y (pc + 3) ls (.int v :: st) mem lk L lkf Lf Q) : zE X d y pc ls st mem lk L lkf Lf Q :=
  zE_step h (fun a b => ⟨a, zins_cons trivial b⟩) (fun _ _ _ _ _ _ _ _ _ _ _ _ _ _ _ _ la hC hL K => lv_sipush hC.2.1 hC.2.2.1 hd hv (K la hL))
theorem zE_lconst {n : Fin 2} {v : Int64} (hd : decode (zmB y) pc = .ok (.lconst n, 1)) (hv : Int64.ofNat (n : Nat) = v) (h : zE X d y (pc + 1) ls (.long v :: st) mem lk L lkf Lf Q) : zE X d y pc ls st mem lk L lkf Lf Q :=
  zE_step h (fun a b => ⟨a, zins_cons trivial b⟩) (fun _ _ _ _ _ _ _ _ _ _ _ _ _ _ _ _ la hC hL K => lv_lconst hC.2.1 hC.2.2.1 hd hv (K la hL))
theorem zE_ldc {i : Nat} {v : Int32} (hd : decode (zmB y) pc = .ok (.ldc i, 2)) (hv : Cond.constant (zmO y) i v ∈ zgd) (h : zE X d y (pc + 2) ls (.int v :: st) mem lk L lkf Lf Q) : zE X d y pc ls st mem lk L lkf Lf Q :=
  zE_step h (fun a b => ⟨a, zins_cons trivial b⟩) (fun _ _ _ _ _ _ _ _ _ _ _ _ _ _ _ _ la hC hL K => lv_ldc hC.2.1 hC.2.2.1 hC.2.2.2.2.2.1 (hC.2.2.2.2.2.2.2.2.1 _ hv) hd (K la hL))
theorem zE_ldcw {i : Nat} {v : Int32} (hd : decode (zmB y) pc = .ok (.ldc_w i, 3)) (hv : Cond.constant (zmO y) i v ∈ zgd) (h : zE X d y (pc + 3) ls (.int v :: st) mem lk L lkf Lf Q) : zE X d y pc ls st mem lk L lkf Lf Q :=
  zE_step h (fun a b => ⟨a, zins_cons trivial b⟩) (fun _ _ _ _ _ _ _ _ _ _ _ _ _ _ _ _ la hC hL K => lv_ldcw hC.2.1 hC.2.2.1 hC.2.2.2.2.2.1 (hC.2.2.2.2.2.2.2.2.1 _ hv) hd (K la hL))
theorem zE_ldc2 {i : Nat} {v : Int64} (hd : decode (zmB y) pc = .ok (.ldc2_w i, 3)) (hv : Cond.constantLong (zmO y) i v ∈ zgd) (h : zE X d y (pc + 3) ls (.long v :: st) mem lk L lkf Lf Q) : zE X d y pc ls st mem lk L lkf Lf Q :=
  zE_step h (fun a b => ⟨a, zins_cons trivial b⟩) (fun _ _ _ _ _ _ _ _ _ _ _ _ _ _ _ _ la hC hL K => lv_ldc2 hC.2.1 hC.2.2.1 hC.2.2.2.2.2.1 (hC.2.2.2.2.2.2.2.2.1 _ hv) hd (K la hL))
theorem zE_iload_n {k : Fin 4} {x : Int32} (hd : decode (zmB y) pc = .ok (.iload_n k, 1)) (hl : ls[(k : Nat)]? = some (.int x)) (h : zE X d y (pc + 1) ls (.int x :: st) mem lk L lkf Lf Q) : zE X d y pc ls st mem lk L lkf Lf Q :=
  zE_step h (fun a b => ⟨a, zins_cons trivial b⟩) (fun _ _ _ _ _ _ _ _ _ _ _ _ _ _ _ _ la hC hL K => lv_iload_n hC.2.1 hC.2.2.1 hd rfl (hL.2.2.2 _ _ hl (fun q => by cases q)) (K la hL))
theorem zE_iload {k : Nat} {x : Int32} (hd : decode (zmB y) pc = .ok (.iload k, 2)) (hl : ls[k]? = some (.int x)) (h : zE X d y (pc + 2) ls (.int x :: st) mem lk L lkf Lf Q) : zE X d y pc ls st mem lk L lkf Lf Q :=
  zE_step h (fun a b => ⟨a, zins_cons trivial b⟩) (fun _ _ _ _ _ _ _ _ _ _ _ _ _ _ _ _ la hC hL K => lv_iload hC.2.1 hC.2.2.1 hd (hL.2.2.2 _ _ hl (fun q => by cases q)) (K la hL))
theorem zE_lload_n {k : Fin 4} {x : Int64} (hd : decode (zmB y) pc = .ok (.lload_n k, 1)) (hl : ls[(k : Nat)]? = some (.long x)) (h : zE X d y (pc + 1) ls (.long x :: st) mem lk L lkf Lf Q) : zE X d y pc ls st mem lk L lkf Lf Q :=
  zE_step h (fun a b => ⟨a, zins_cons trivial b⟩) (fun _ _ _ _ _ _ _ _ _ _ _ _ _ _ _ _ la hC hL K => lv_lload_n hC.2.1 hC.2.2.1 hd rfl (hL.2.2.2 _ _ hl (fun q => by cases q)) (K la hL))
theorem zE_lload {k : Nat} {x : Int64} (hd : decode (zmB y) pc = .ok (.lload k, 2)) (hl : ls[k]? = some (.long x)) (h : zE X d y (pc + 2) ls (.long x :: st) mem lk L lkf Lf Q) : zE X d y pc ls st mem lk L lkf Lf Q :=
  zE_step h (fun a b => ⟨a, zins_cons trivial b⟩) (fun _ _ _ _ _ _ _ _ _ _ _ _ _ _ _ _ la hC hL K => lv_lload hC.2.1 hC.2.2.1 hd (hL.2.2.2 _ _ hl (fun q => by cases q)) (K la hL))
theorem zE_aload_n {k : Fin 4} {x : Nat} (hd : decode (zmB y) pc = .ok (.aload_n k, 1)) (hl : ls[(k : Nat)]? = some (.ref x)) (h : zE X d y (pc + 1) ls (.ref x :: st) mem lk L lkf Lf Q) : zE X d y pc ls st mem lk L lkf Lf Q :=
  zE_step h (fun a b => ⟨a, zins_cons (zins_at a hl) b⟩) (fun _ _ _ _ _ _ _ _ _ _ _ _ _ _ _ _ la hC hL K => lv_aload_n hC.2.1 hC.2.2.1 hd rfl (hL.2.2.2 _ _ hl (fun q => by cases q)) (K la hL))
theorem zE_aload {k : Nat} {x : Nat} (hd : decode (zmB y) pc = .ok (.aload k, 2)) (hl : ls[k]? = some (.ref x)) (h : zE X d y (pc + 2) ls (.ref x :: st) mem lk L lkf Lf Q) : zE X d y pc ls st mem lk L lkf Lf Q :=
  zE_step h (fun a b => ⟨a, zins_cons (zins_at a hl) b⟩) (fun _ _ _ _ _ _ _ _ _ _ _ _ _ _ _ _ la hC hL K => lv_aload hC.2.1 hC.2.2.1 hd (hL.2.2.2 _ _ hl (fun q => by cases q)) (K la hL))
theorem zLs.lt {φ : Nat → Nat} {n : Nat} {ls : List Value} {la : Array Slot} (h : zLs φ n ls la) {i : Nat} {v : Value} (hi : ls[i]? = some v) : i < n := by
  rw [← h.2.2.1]; exact (List.getElem?_eq_some_iff.mp hi).1
theorem zE_istore_n {k : Fin 4} {x : Int32} {w : Value} (hd : decode (zmB y) pc = .ok (.istore_n k, 1)) (hw : ls[(k : Nat)]? = some w) (h : zE X d y (pc + 1) (zs1 ls k (.int x)) st mem lk L lkf Lf Q) : zE X d y pc ls (.int x :: st) mem lk L lkf Lf Q :=
  zE_step h (fun a b => ⟨zins_s1 trivial a, zins_tl b⟩) (fun _ _ _ _ _ _ _ _ _ _ _ _ _ _ φ _ la hC hL K => lv_istore_n hC.2.1 hC.2.2.1 hd rfl hL.has (hL.lt hw) rfl (fun la' h' => K la' (hL.s1 (v := .int x) h')))
theorem zE_istore {k : Nat} {x : Int32} {w : Value} (hd : decode (zmB y) pc = .ok (.istore k, 2)) (hw : ls[k]? = some w) (h : zE X d y (pc + 2) (zs1 ls k (.int x)) st mem lk L lkf Lf Q) : zE X d y pc ls (.int x :: st) mem lk L lkf Lf Q :=
  zE_step h (fun a b => ⟨zins_s1 trivial a, zins_tl b⟩) (fun _ _ _ _ _ _ _ _ _ _ _ _ _ _ φ _ la hC hL K => lv_istore hC.2.1 hC.2.2.1 hd hL.has (hL.lt hw) rfl (fun la' h' => K la' (hL.s1 (v := .int x) h')))
theorem zE_astore_n {k : Fin 4} {x : Nat} {w : Value} (hd : decode (zmB y) pc = .ok (.astore_n k, 1)) (hw : ls[(k : Nat)]? = some w) (h : zE X d y (pc + 1) (zs1 ls k (.ref x)) st mem lk L lkf Lf Q) : zE X d y pc ls (.ref x :: st) mem lk L lkf Lf Q :=
  zE_step h (fun a b => ⟨zins_s1 (zins_hd b) a, zins_tl b⟩) (fun _ _ _ _ _ _ _ _ _ _ _ _ _ _ φ _ la hC hL K => lv_astore_n hC.2.1 hC.2.2.1 hd rfl hL.has (hL.lt hw) rfl (fun la' h' => K la' (hL.s1 (v := .ref x) h')))
theorem zE_astore {k : Nat} {x : Nat} {w : Value} (hd : decode (zmB y) pc = .ok (.astore k, 2)) (hw : ls[k]? = some w) (h : zE X d y (pc + 2) (zs1 ls k (.ref x)) st mem lk L lkf Lf Q) : zE X d y pc ls (.ref x :: st) mem lk L lkf Lf Q :=
  zE_step h (fun a b => ⟨zins_s1 (zins_hd b) a, zins_tl b⟩) (fun _ _ _ _ _ _ _ _ _ _ _ _ _ _ φ _ la hC hL K => lv_astore hC.2.1 hC.2.2.1 hd hL.has (hL.lt hw) rfl (fun la' h' => K la' (hL.s1 (v := .ref x) h')))
theorem zE_lstore_n {k : Fin 4} {x : Int64} {w : Value} (hd : decode (zmB y) pc = .ok (.lstore_n k, 1)) (hw : ls[(k : Nat) + 1]? = some w) (h : zE X d y (pc + 1) (zs2 ls k (.long x)) st mem lk L lkf Lf Q) : zE X d y pc ls (.long x :: st) mem lk L lkf Lf Q :=
  zE_step h (fun a b => ⟨zins_s2 trivial a, zins_tl b⟩) (fun _ _ _ _ _ _ _ _ _ _ _ _ _ _ φ _ la hC hL K => lv_lstore_n hC.2.1 hC.2.2.1 hd rfl hL.has (hL.lt hw) rfl (fun la' h' => K la' (hL.s2 (v := .long x) h')))
theorem zE_lstore {k : Nat} {x : Int64} {w : Value} (hd : decode (zmB y) pc = .ok (.lstore k, 2)) (hw : ls[k + 1]? = some w) (h : zE X d y (pc + 2) (zs2 ls k (.long x)) st mem lk L lkf Lf Q) : zE X d y pc ls (.long x :: st) mem lk L lkf Lf Q :=
  zE_step h (fun a b => ⟨zins_s2 trivial a, zins_tl b⟩) (fun _ _ _ _ _ _ _ _ _ _ _ _ _ _ φ _ la hC hL K => lv_lstore hC.2.1 hC.2.2.1 hd hL.has (hL.lt hw) rfl (fun la' h' => K la' (hL.s2 (v := .long x) h')))
theorem zE_iinc {k : Nat} {n : Int} {x v : Int32} (hd : decode (zmB y) pc = .ok (.iinc k n, 3)) (hw : ls[k]? = some (.int x)) (hv : x + Int32.ofInt n = v) (h : zE X d y (pc + 3) (zs1 ls k (.int v)) st mem lk L lkf Lf Q) : zE X d y pc ls st mem lk L lkf Lf Q :=
  zE_step h (fun a b => ⟨zins_s1 trivial a, b⟩) (fun _ _ _ _ _ _ _ _ _ _ _ _ _ _ φ _ la hC hL K => by
    obtain ⟨q, hq⟩ := List.mem_iff_getElem?.mp (zlv_mem.mpr (⟨_, hw, (fun q => by cases q), rfl⟩ : ∃ v, ls[(k, Value.int x).1]? = some v ∧ v ≠ zU ∧ (k, Value.int x).2 = ztr φ v))
    exact lv_iinc hC.2.1 hC.2.2.1 hd hL.has hq hv (hL.lt hw) rfl (fun la' h' => K la' (hL.s1 (v := .int v) h')))
theorem zE_iadd {x z : Int32} (hd : decode (zmB y) pc = .ok (.iadd, 1)) (h : zE X d y (pc + 1) ls (.int (x + z) :: st) mem lk L lkf Lf Q) : zE X d y pc ls (.int z :: .int x :: st) mem lk L lkf Lf Q :=
  zE_step h (fun a b => ⟨a, zins_cons trivial (zins_tl (zins_tl b))⟩) (fun _ _ _ _ _ _ _ _ _ _ _ _ _ _ _ _ la hC hL K => lv_iadd hC.2.1 hC.2.2.1 hd (K la hL))
theorem zE_isub {x z : Int32} (hd : decode (zmB y) pc = .ok (.isub, 1)) (h : zE X d y (pc + 1) ls (.int (x - z) :: st) mem lk L lkf Lf Q) : zE X d y pc ls (.int z :: .int x :: st) mem lk L lkf Lf Q :=
  zE_step h (fun a b => ⟨a, zins_cons trivial (zins_tl (zins_tl b))⟩) (fun _ _ _ _ _ _ _ _ _ _ _ _ _ _ _ _ la hC hL K => lv_isub hC.2.1 hC.2.2.1 hd (K la hL))
theorem zE_imul {x z : Int32} (hd : decode (zmB y) pc = .ok (.imul, 1)) (h : zE X d y (pc + 1) ls (.int (x * z) :: st) mem lk L lkf Lf Q) : zE X d y pc ls (.int z :: .int x :: st) mem lk L lkf Lf Q :=
  zE_step h (fun a b => ⟨a, zins_cons trivial (zins_tl (zins_tl b))⟩) (fun _ _ _ _ _ _ _ _ _ _ _ _ _ _ _ _ la hC hL K => lv_imul hC.2.1 hC.2.2.1 hd (K la hL))
theorem zE_iand {x z : Int32} (hd : decode (zmB y) pc = .ok (.iand, 1)) (h : zE X d y (pc + 1) ls (.int (x &&& z) :: st) mem lk L lkf Lf Q) : zE X d y pc ls (.int z :: .int x :: st) mem lk L lkf Lf Q :=
  zE_step h (fun a b => ⟨a, zins_cons trivial (zins_tl (zins_tl b))⟩) (fun _ _ _ _ _ _ _ _ _ _ _ _ _ _ _ _ la hC hL K => lv_iand hC.2.1 hC.2.2.1 hd (K la hL))
theorem zE_ior {x z : Int32} (hd : decode (zmB y) pc = .ok (.ior, 1)) (h : zE X d y (pc + 1) ls (.int (x ||| z) :: st) mem lk L lkf Lf Q) : zE X d y pc ls (.int z :: .int x :: st) mem lk L lkf Lf Q :=
  zE_step h (fun a b => ⟨a, zins_cons trivial (zins_tl (zins_tl b))⟩) (fun _ _ _ _ _ _ _ _ _ _ _ _ _ _ _ _ la hC hL K => lv_ior hC.2.1 hC.2.2.1 hd (K la hL))
theorem zE_ixor {x z : Int32} (hd : decode (zmB y) pc = .ok (.ixor, 1)) (h : zE X d y (pc + 1) ls (.int (x ^^^ z) :: st) mem lk L lkf Lf Q) : zE X d y pc ls (.int z :: .int x :: st) mem lk L lkf Lf Q :=
  zE_step h (fun a b => ⟨a, zins_cons trivial (zins_tl (zins_tl b))⟩) (fun _ _ _ _ _ _ _ _ _ _ _ _ _ _ _ _ la hC hL K => lv_ixor hC.2.1 hC.2.2.1 hd (K la hL))
theorem zE_ishl {x z : Int32} (hd : decode (zmB y) pc = .ok (.ishl, 1)) (h : zE X d y (pc + 1) ls (.int (x <<< (z &&& 31)) :: st) mem lk L lkf Lf Q) : zE X d y pc ls (.int z :: .int x :: st) mem lk L lkf Lf Q :=
  zE_step h (fun a b => ⟨a, zins_cons trivial (zins_tl (zins_tl b))⟩) (fun _ _ _ _ _ _ _ _ _ _ _ _ _ _ _ _ la hC hL K => lv_ishl hC.2.1 hC.2.2.1 hd (K la hL))
theorem zE_ishr {x z : Int32} (hd : decode (zmB y) pc = .ok (.ishr, 1)) (h : zE X d y (pc + 1) ls (.int (x >>> (z &&& 31)) :: st) mem lk L lkf Lf Q) : zE X d y pc ls (.int z :: .int x :: st) mem lk L lkf Lf Q :=
  zE_step h (fun a b => ⟨a, zins_cons trivial (zins_tl (zins_tl b))⟩) (fun _ _ _ _ _ _ _ _ _ _ _ _ _ _ _ _ la hC hL K => lv_ishr hC.2.1 hC.2.2.1 hd (K la hL))
theorem zE_ladd {x z : Int64} (hd : decode (zmB y) pc = .ok (.ladd, 1)) (h : zE X d y (pc + 1) ls (.long (x + z) :: st) mem lk L lkf Lf Q) : zE X d y pc ls (.long z :: .long x :: st) mem lk L lkf Lf Q :=
  zE_step h (fun a b => ⟨a, zins_cons trivial (zins_tl (zins_tl b))⟩) (fun _ _ _ _ _ _ _ _ _ _ _ _ _ _ _ _ la hC hL K => lv_ladd hC.2.1 hC.2.2.1 hd (K la hL))
theorem zE_lmul {x z : Int64} (hd : decode (zmB y) pc = .ok (.lmul, 1)) (h : zE X d y (pc + 1) ls (.long (x * z) :: st) mem lk L lkf Lf Q) : zE X d y pc ls (.long z :: .long x :: st) mem lk L lkf Lf Q :=
  zE_step h (fun a b => ⟨a, zins_cons trivial (zins_tl (zins_tl b))⟩) (fun _ _ _ _ _ _ _ _ _ _ _ _ _ _ _ _ la hC hL K => lv_lmul hC.2.1 hC.2.2.1 hd (K la hL))
theorem zE_idiv {x z : Int32} (hd : decode (zmB y) pc = .ok (.idiv, 1)) (hne : ¬ z = 0) (h : zE X d y (pc + 1) ls (.int (x / z) :: st) mem lk L lkf Lf Q) : zE X d y pc ls (.int z :: .int x :: st) mem lk L lkf Lf Q :=
  zE_step h (fun a b => ⟨a, zins_cons trivial (zins_tl (zins_tl b))⟩) (fun _ _ _ _ _ _ _ _ _ _ _ _ _ _ _ _ la hC hL K => lv_idiv hC.2.1 hC.2.2.1 hd hne (K la hL))
theorem zE_irem {x z : Int32} (hd : decode (zmB y) pc = .ok (.irem, 1)) (hne : ¬ z = 0) (h : zE X d y (pc + 1) ls (.int (x - x / z * z) :: st) mem lk L lkf Lf Q) : zE X d y pc ls (.int z :: .int x :: st) mem lk L lkf Lf Q :=
  zE_step h (fun a b => ⟨a, zins_cons trivial (zins_tl (zins_tl b))⟩) (fun _ _ _ _ _ _ _ _ _ _ _ _ _ _ _ _ la hC hL K => lv_irem hC.2.1 hC.2.2.1 hd hne (K la hL))
theorem zE_ldiv {x z : Int64} (hd : decode (zmB y) pc = .ok (.ldiv, 1)) (hne : ¬ z = 0) (h : zE X d y (pc + 1) ls (.long (x / z) :: st) mem lk L lkf Lf Q) : zE X d y pc ls (.long z :: .long x :: st) mem lk L lkf Lf Q :=
  zE_step h (fun a b => ⟨a, zins_cons trivial (zins_tl (zins_tl b))⟩) (fun _ _ _ _ _ _ _ _ _ _ _ _ _ _ _ _ la hC hL K => lv_ldiv hC.2.1 hC.2.2.1 hd hne (K la hL))
theorem zE_lrem {x z : Int64} (hd : decode (zmB y) pc = .ok (.lrem, 1)) (hne : ¬ z = 0) (h : zE X d y (pc + 1) ls (.long (x - x / z * z) :: st) mem lk L lkf Lf Q) : zE X d y pc ls (.long z :: .long x :: st) mem lk L lkf Lf Q :=
  zE_step h (fun a b => ⟨a, zins_cons trivial (zins_tl (zins_tl b))⟩) (fun _ _ _ _ _ _ _ _ _ _ _ _ _ _ _ _ la hC hL K => lv_lrem hC.2.1 hC.2.2.1 hd hne (K la hL))
theorem zE_iushr {x z : Int32} (hd : decode (zmB y) pc = .ok (.iushr, 1)) (h : zE X d y (pc + 1) ls (.int (x.toUInt32 >>> (z.toUInt32 &&& Int32.toUInt32 31)).toInt32 :: st) mem lk L lkf Lf Q) : zE X d y pc ls (.int z :: .int x :: st) mem lk L lkf Lf Q :=
  zE_step h (fun a b => ⟨a, zins_cons trivial (zins_tl (zins_tl b))⟩) (fun _ _ _ _ _ _ _ _ _ _ _ _ _ _ _ _ la hC hL K => lv_iushr hC.2.1 hC.2.2.1 hd rfl (K la hL))
theorem zE_lcmp {x z : Int64} (hd : decode (zmB y) pc = .ok (.lcmp, 1)) (h : zE X d y (pc + 1) ls (.int (lg_cmp x z) :: st) mem lk L lkf Lf Q) : zE X d y pc ls (.long z :: .long x :: st) mem lk L lkf Lf Q :=
  zE_step h (fun a b => ⟨a, zins_cons trivial (zins_tl (zins_tl b))⟩) (fun _ _ _ _ _ _ _ _ _ _ _ _ _ _ _ _ la hC hL K => W.lcmp hC.2.1 hC.2.2.1 hd (K la hL))
theorem zE_ineg {x : Int32} (hd : decode (zmB y) pc = .ok (.ineg, 1)) (h : zE X d y (pc + 1) ls (.int (-x) :: st) mem lk L lkf Lf Q) : zE X d y pc ls (.int x :: st) mem lk L lkf Lf Q :=
  zE_step h (fun a b => ⟨a, zins_cons trivial (zins_tl b)⟩) (fun _ _ _ _ _ _ _ _ _ _ _ _ _ _ _ _ la hC hL K => lv_ineg hC.2.1 hC.2.2.1 hd (K la hL))
theorem zE_i2l {x : Int32} (hd : decode (zmB y) pc = .ok (.i2l, 1)) (h : zE X d y (pc + 1) ls (.long x.toInt64 :: st) mem lk L lkf Lf Q) : zE X d y pc ls (.int x :: st) mem lk L lkf Lf Q :=
  zE_step h (fun a b => ⟨a, zins_cons trivial (zins_tl b)⟩) (fun _ _ _ _ _ _ _ _ _ _ _ _ _ _ _ _ la hC hL K => lv_i2l hC.2.1 hC.2.2.1 hd rfl (K la hL))
theorem zE_l2i {x : Int64} (hd : decode (zmB y) pc = .ok (.l2i, 1)) (h : zE X d y (pc + 1) ls (.int x.toInt32 :: st) mem lk L lkf Lf Q) : zE X d y pc ls (.long x :: st) mem lk L lkf Lf Q :=
  zE_step h (fun a b => ⟨a, zins_cons trivial (zins_tl b)⟩) (fun _ _ _ _ _ _ _ _ _ _ _ _ _ _ _ _ la hC hL K => lv_l2i hC.2.1 hC.2.2.1 hd rfl (K la hL))
theorem zE_i2b {x : Int32} (hd : decode (zmB y) pc = .ok (.i2b, 1)) (h : zE X d y (pc + 1) ls (.int x.toInt8.toInt32 :: st) mem lk L lkf Lf Q) : zE X d y pc ls (.int x :: st) mem lk L lkf Lf Q :=
  zE_step h (fun a b => ⟨a, zins_cons trivial (zins_tl b)⟩) (fun _ _ _ _ _ _ _ _ _ _ _ _ _ _ _ _ la hC hL K => lv_i2b hC.2.1 hC.2.2.1 hd rfl (K la hL))
theorem zE_i2s {x : Int32} (hd : decode (zmB y) pc = .ok (.i2s, 1)) (h : zE X d y (pc + 1) ls (.int x.toInt16.toInt32 :: st) mem lk L lkf Lf Q) : zE X d y pc ls (.int x :: st) mem lk L lkf Lf Q :=
  zE_step h (fun a b => ⟨a, zins_cons trivial (zins_tl b)⟩) (fun _ _ _ _ _ _ _ _ _ _ _ _ _ _ _ _ la hC hL K => lv_i2s hC.2.1 hC.2.2.1 hd rfl (K la hL))
theorem zE_dupI {x : Int32} (hd : decode (zmB y) pc = .ok (.dup, 1)) (h : zE X d y (pc + 1) ls (.int x :: .int x :: st) mem lk L lkf Lf Q) : zE X d y pc ls (.int x :: st) mem lk L lkf Lf Q :=
  zE_step h (fun a b => ⟨a, zins_cons trivial b⟩) (fun _ _ _ _ _ _ _ _ _ _ _ _ _ _ _ _ la hC hL K => lv_dup hC.2.1 hC.2.2.1 hd rfl (K la hL))
theorem zE_dupR {x : Nat} (hd : decode (zmB y) pc = .ok (.dup, 1)) (h : zE X d y (pc + 1) ls (.ref x :: .ref x :: st) mem lk L lkf Lf Q) : zE X d y pc ls (.ref x :: st) mem lk L lkf Lf Q :=
  zE_step h (fun a b => ⟨a, zins_cons (zins_hd b) b⟩) (fun _ _ _ _ _ _ _ _ _ _ _ _ _ _ _ _ la hC hL K => lv_dup hC.2.1 hC.2.2.1 hd rfl (K la hL))
theorem zE_dup2 {x : Int32} {o : Nat} (hd : decode (zmB y) pc = .ok (.dup2, 1)) (h : zE X d y (pc + 1) ls (.int x :: .ref o :: .int x :: .ref o :: st) mem lk L lkf Lf Q) : zE X d y pc ls (.int x :: .ref o :: st) mem lk L lkf Lf Q :=
  zE_step h (fun a b => ⟨a, zins_cons trivial (zins_cons (zins_hd (zins_tl b)) b)⟩) (fun _ _ _ _ _ _ _ _ _ _ _ _ _ _ _ _ la hC hL K => lv_dup2_11 hC.2.1 hC.2.2.1 hd rfl rfl (K la hL))
theorem zE_if_eq {x : Int32} {off : Int} {tgt : Nat} (hd : decode (zmB y) pc = .ok (.ifCond .eq off, 3)) (ht : (pc : Int) + off = (tgt : Int)) (h1 : x = 0 → zE X d y tgt ls st mem lk L lkf Lf Q) (h2 : ¬ x = 0 → zE X d y (pc + 3) ls st mem lk L lkf Lf Q) : zE X d y pc ls (.int x :: st) mem lk L lkf Lf Q :=
  zE_two h1 h2 zins_tl (fun _ _ _ _ _ _ _ _ _ _ _ _ _ _ _ _ _ hC k1 k2 => lv_if_eq hC.2.1 hC.2.2.1 hd ht k1 k2)
theorem zE_icmp_eq {x z : Int32} {off : Int} {tgt : Nat} (hd : decode (zmB y) pc = .ok (.if_icmp .eq off, 3)) (ht : (pc : Int) + off = (tgt : Int)) (h1 : x = z → zE X d y tgt ls st mem lk L lkf Lf Q) (h2 : ¬ x = z → zE X d y (pc + 3) ls st mem lk L lkf Lf Q) : zE X d y pc ls (.int z :: .int x :: st) mem lk L lkf Lf Q :=
  zE_two h1 h2 (fun b => zins_tl (zins_tl b)) (fun _ _ _ _ _ _ _ _ _ _ _ _ _ _ _ _ _ hC k1 k2 => lv_icmp_eq hC.2.1 hC.2.2.1 hd ht k1 k2)
theorem zE_if_ne {x : Int32} {off : Int} {tgt : Nat} (hd : decode (zmB y) pc = .ok (.ifCond .ne off, 3)) (ht : (pc : Int) + off = (tgt : Int)) (h1 : ¬ x = 0 → zE X d y tgt ls st mem lk L lkf Lf Q) (h2 : x = 0 → zE X d y (pc + 3) ls st mem lk L lkf Lf Q) : zE X d y pc ls (.int x :: st) mem lk L lkf Lf Q :=
  zE_two (c1 := ¬ x = 0) h1 (fun q => h2 (Decidable.not_not.mp q)) zins_tl (fun _ _ _ _ _ _ _ _ _ _ _ _ _ _ _ _ _ hC k1 k2 => lv_if_ne hC.2.1 hC.2.2.1 hd ht k1 (fun q => k2 (fun z => z q)))
theorem zE_icmp_ne {x z : Int32} {off : Int} {tgt : Nat} (hd : decode (zmB y) pc = .ok (.if_icmp .ne off, 3)) (ht : (pc : Int) + off = (tgt : Int)) (h1 : ¬ x = z → zE X d y tgt ls st mem lk L lkf Lf Q) (h2 : x = z → zE X d y (pc + 3) ls st mem lk L lkf Lf Q) : zE X d y pc ls (.int z :: .int x :: st) mem lk L lkf Lf Q :=
  zE_two (c1 := ¬ x = z) h1 (fun q => h2 (Decidable.not_not.mp q)) (fun b => zins_tl (zins_tl b)) (fun _ _ _ _ _ _ _ _ _ _ _ _ _ _ _ _ _ hC k1 k2 => lv_icmp_ne hC.2.1 hC.2.2.1 hd ht k1 (fun q => k2 (fun z => z q)))
theorem zE_if_lt {x : Int32} {off : Int} {tgt : Nat} (hd : decode (zmB y) pc = .ok (.ifCond .lt off, 3)) (ht : (pc : Int) + off = (tgt : Int)) (h1 : x < 0 → zE X d y tgt ls st mem lk L lkf Lf Q) (h2 : ¬ x < 0 → zE X d y (pc + 3) ls st mem lk L lkf Lf Q) : zE X d y pc ls (.int x :: st) mem lk L lkf Lf Q :=
  zE_two h1 h2 zins_tl (fun _ _ _ _ _ _ _ _ _ _ _ _ _ _ _ _ _ hC k1 k2 => lv_if_lt hC.2.1 hC.2.2.1 hd ht k1 k2)
theorem zE_icmp_lt {x z : Int32} {off : Int} {tgt : Nat} (hd : decode (zmB y) pc = .ok (.if_icmp .lt off, 3)) (ht : (pc : Int) + off = (tgt : Int)) (h1 : x < z → zE X d y tgt ls st mem lk L lkf Lf Q) (h2 : ¬ x < z → zE X d y (pc + 3) ls st mem lk L lkf Lf Q) : zE X d y pc ls (.int z :: .int x :: st) mem lk L lkf Lf Q :=
  zE_two h1 h2 (fun b => zins_tl (zins_tl b)) (fun _ _ _ _ _ _ _ _ _ _ _ _ _ _ _ _ _ hC k1 k2 => lv_icmp_lt hC.2.1 hC.2.2.1 hd ht k1 k2)
theorem zE_if_ge {x : Int32} {off : Int} {tgt : Nat} (hd : decode (zmB y) pc = .ok (.ifCond .ge off, 3)) (ht : (pc : Int) + off = (tgt : Int)) (h1 : 0 ≤ x → zE X d y tgt ls st mem lk L lkf Lf Q) (h2 : ¬ 0 ≤ x → zE X d y (pc + 3) ls st mem lk L lkf Lf Q) : zE X d y pc ls (.int x :: st) mem lk L lkf Lf Q :=
  zE_two h1 h2 zins_tl (fun _ _ _ _ _ _ _ _ _ _ _ _ _ _ _ _ _ hC k1 k2 => lv_if_ge hC.2.1 hC.2.2.1 hd ht k1 k2)
theorem zE_icmp_ge {x z : Int32} {off : Int} {tgt : Nat} (hd : decode (zmB y) pc = .ok (.if_icmp .ge off, 3)) (ht : (pc : Int) + off = (tgt : Int)) (h1 : z ≤ x → zE X d y tgt ls st mem lk L lkf Lf Q) (h2 : ¬ z ≤ x → zE X d y (pc + 3) ls st mem lk L lkf Lf Q) : zE X d y pc ls (.int z :: .int x :: st) mem lk L lkf Lf Q :=
  zE_two h1 h2 (fun b => zins_tl (zins_tl b)) (fun _ _ _ _ _ _ _ _ _ _ _ _ _ _ _ _ _ hC k1 k2 => lv_icmp_ge hC.2.1 hC.2.2.1 hd ht k1 k2)
theorem zE_if_gt {x : Int32} {off : Int} {tgt : Nat} (hd : decode (zmB y) pc = .ok (.ifCond .gt off, 3)) (ht : (pc : Int) + off = (tgt : Int)) (h1 : 0 < x → zE X d y tgt ls st mem lk L lkf Lf Q) (h2 : ¬ 0 < x → zE X d y (pc + 3) ls st mem lk L lkf Lf Q) : zE X d y pc ls (.int x :: st) mem lk L lkf Lf Q :=
  zE_two h1 h2 zins_tl (fun _ _ _ _ _ _ _ _ _ _ _ _ _ _ _ _ _ hC k1 k2 => lv_if_gt hC.2.1 hC.2.2.1 hd ht k1 k2)
theorem zE_icmp_gt {x z : Int32} {off : Int} {tgt : Nat} (hd : decode (zmB y) pc = .ok (.if_icmp .gt off, 3)) (ht : (pc : Int) + off = (tgt : Int)) (h1 : z < x → zE X d y tgt ls st mem lk L lkf Lf Q) (h2 : ¬ z < x → zE X d y (pc + 3) ls st mem lk L lkf Lf Q) : zE X d y pc ls (.int z :: .int x :: st) mem lk L lkf Lf Q :=
  zE_two h1 h2 (fun b => zins_tl (zins_tl b)) (fun _ _ _ _ _ _ _ _ _ _ _ _ _ _ _ _ _ hC k1 k2 => lv_icmp_gt hC.2.1 hC.2.2.1 hd ht k1 k2)
theorem zE_if_le {x : Int32} {off : Int} {tgt : Nat} (hd : decode (zmB y) pc = .ok (.ifCond .le off, 3)) (ht : (pc : Int) + off = (tgt : Int)) (h1 : x ≤ 0 → zE X d y tgt ls st mem lk L lkf Lf Q) (h2 : ¬ x ≤ 0 → zE X d y (pc + 3) ls st mem lk L lkf Lf Q) : zE X d y pc ls (.int x :: st) mem lk L lkf Lf Q :=
  zE_two h1 h2 zins_tl (fun _ _ _ _ _ _ _ _ _ _ _ _ _ _ _ _ _ hC k1 k2 => lv_if_le hC.2.1 hC.2.2.1 hd ht k1 k2)
theorem zE_icmp_le {x z : Int32} {off : Int} {tgt : Nat} (hd : decode (zmB y) pc = .ok (.if_icmp .le off, 3)) (ht : (pc : Int) + off = (tgt : Int)) (h1 : x ≤ z → zE X d y tgt ls st mem lk L lkf Lf Q) (h2 : ¬ x ≤ z → zE X d y (pc + 3) ls st mem lk L lkf Lf Q) : zE X d y pc ls (.int z :: .int x :: st) mem lk L lkf Lf Q :=
  zE_two h1 h2 (fun b => zins_tl (zins_tl b)) (fun _ _ _ _ _ _ _ _ _ _ _ _ _ _ _ _ _ hC k1 k2 => lv_icmp_le hC.2.1 hC.2.2.1 hd ht k1 k2)
theorem zE_goto {off : Int} {tgt : Nat} (hd : decode (zmB y) pc = .ok (.goto off, 3)) (ht : (pc : Int) + off = (tgt : Int)) (h : zE X d y tgt ls st mem lk L lkf Lf Q) : zE X d y pc ls st mem lk L lkf Lf Q :=
  zE_step h (fun a b => ⟨a, b⟩) (fun _ _ _ _ _ _ _ _ _ _ _ _ _ _ _ _ la hC hL K => lv_goto hC.2.1 hC.2.2.1 hd ht (K la hL))
theorem zE_ifnull {x : Nat} {off : Int} (hd : decode (zmB y) pc = .ok (.ifnull off, 3)) (h : zE X d y (pc + 3) ls st mem lk L lkf Lf Q) : zE X d y pc ls (.ref x :: st) mem lk L lkf Lf Q :=
  zE_step h (fun a b => ⟨a, zins_tl b⟩) (fun _ _ _ _ _ _ _ _ _ _ _ _ _ _ _ _ la hC hL K => lv_ifnull hC.2.1 hC.2.2.1 hd (K la hL))
theorem zE_ifnullN {off : Int} {tgt : Nat} (hd : decode (zmB y) pc = .ok (.ifnull off, 3)) (ht : (pc : Int) + off = (tgt : Int)) (h : zE X d y tgt ls st mem lk L lkf Lf Q) : zE X d y pc ls (.null :: st) mem lk L lkf Lf Q :=
  zE_step h (fun a b => ⟨a, zins_tl b⟩) (fun _ _ _ _ _ _ _ _ _ _ _ _ _ _ _ _ la hC hL K => lv_ifnullN hC.2.1 hC.2.2.1 hd ht (K la hL))
theorem zE_ifnonnull {x : Nat} {off : Int} {tgt : Nat} (hd : decode (zmB y) pc = .ok (.ifnonnull off, 3)) (ht : (pc : Int) + off = (tgt : Int)) (h : zE X d y tgt ls st mem lk L lkf Lf Q) : zE X d y pc ls (.ref x :: st) mem lk L lkf Lf Q :=
  zE_step h (fun a b => ⟨a, zins_tl b⟩) (fun _ _ _ _ _ _ _ _ _ _ _ _ _ _ _ _ la hC hL K => lv_ifnonnull hC.2.1 hC.2.2.1 hd ht (K la hL))
theorem zE_ifnonnullN {off : Int} (hd : decode (zmB y) pc = .ok (.ifnonnull off, 3)) (h : zE X d y (pc + 3) ls st mem lk L lkf Lf Q) : zE X d y pc ls (.null :: st) mem lk L lkf Lf Q :=
  zE_step h (fun a b => ⟨a, zins_tl b⟩) (fun _ _ _ _ _ _ _ _ _ _ _ _ _ _ _ _ la hC hL K => lv_ifnonnullN hC.2.1 hC.2.2.1 hd (K la hL))
end ZE
