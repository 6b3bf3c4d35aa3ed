/-! THE WALK: zE (from a place in a method), zOk (a call), zst (a row as a condition), zwp (rows as a condition) -/
abbrev zU : Value := .retAddr 0
abbrev zmN (y : Nat) : MethodName := (zm y).1
abbrev zmB (y : Nat) : ByteArray := (zm y).2.1
abbrev zmL (y : Nat) : Nat := (zm y).2.2.1
abbrev zmR (y : Nat) : Option FieldType := (zm y).2.2.2.1
abbrev zmT (y : Nat) : List zR := (zm y).2.2.2.2.1
abbrev zmF (y : Nat) : List Nat := (zm y).2.2.2.2.2
def zown (i : Nat) : String := [RX0, RX1, RX2, RX3, RX4, RX5, RX6, RX7, RX8, RL, RJ6, RJ9, RJ7].getD i ""
abbrev zmo (y : Nat) : Nat := (zmF y).getD 8 99
abbrev zmO (y : Nat) : String := zown (zmo y)
/-! the class of int[][] stands in the tables -/
def z2v (vm : Vm) : Option Bool := (vm.findClass (FieldType.array .int).toString).bind fun comp => (vm.classes.findIdx? fun (x : Class) => match x.kind with | .array component _ => component == comp | _ => false).bind fun c => (vm.classes[c]?).map fun (k : Class) => match k.kind with
  | .array _ ty => decide (ty = FieldType.array .int) && decide (vm.findClass ("[" ++ (FieldType.array .int).toString) = some c)
  | _ => false
theorem z2v_bare (vm : Vm) : z2v vm.bare = z2v vm := by
  unfold z2v
  rw [Vm.findClass_bare]
  congr 1
  funext comp
  refine congr (congrArg Option.bind (va_idx_bare vm comp)) (funext fun c => ?_)
  rw [Vm.findClass_bare]
  show Option.map _ (Array.map Class.bare vm.classes)[c]? = _
  rw [Array.getElem?_map, Option.map_map]
  rfl
def zA2 (U : State) : Prop := (Cond.arrayOver (.array .int)).before #[] U = true
theorem zA2_iff {U : State} : zA2 U ↔ (z2v U.vm == some true) = true := Iff.rfl
theorem zA2.moved {u U : State} (h : u.vm.Alike U.vm) (h2 : zA2 u) : zA2 U := by
  rw [zA2_iff] at h2 ⊢
  rw [← z2v_bare, h.bare_eq, z2v_bare]; exact h2
theorem zA2.use {A : Array Value} {U : State} (h : zA2 U) : (Cond.arrayOver (.array .int)).before A U = true := h
/-- what stands all through a method's body -/
def zCx (d y : Nat) (p : Program) (R : Room) (s : State) (m : MethodId) (args : Array Value) (meth : Method) (c : Code) : Prop :=
  0 < d ∧ p.tables.exec = Jvm.exec ∧ c.code = zmB y ∧ meth.sig.returnType = zmR y ∧ c.maxLocals = zmL y ∧ s.vm.findClass (zmO y) = some m.cls ∧ meth.locks = false ∧ meth.name = (zmN y).name ∧
  (∀ w ∈ zgd, w.before args s = true) ∧ (∀ w ∈ znw, va_Nw w s) ∧ (va_AO "DishLift$House" s ∧ zA2 s) ∧ d ≤ R.frames ∧ 100 * d ≤ R.locals
/-- the locals -/
def zLs (φ : Nat → Nat) (n : Nat) (ls : List Value) (la : Array Slot) : Prop := la.size = n ∧ lv_wf la ∧ ls.length = n ∧ ∀ (i : Nat) (v : Value), ls[i]? = some v → v ≠ zU → la[i]? = some (.val (ztr φ v))
/-- where a method may return, and with what -/
def zRet (y pc : Nat) (r : Option Value) : Prop := match r with
  | some (.int v) => decode (zmB y) pc = .ok (.ireturn, 1) ∧ (zmR y = some .int ∨ (zmR y = some .boolean ∧ narrow .boolean (.int v) = .int v))
  | some (.long _) => decode (zmB y) pc = .ok (.lreturn, 1) ∧ zmR y = some .long
  | some (.ref _) => decode (zmB y) pc = .ok (.areturn, 1) ∧ ∃ C, zmR y = some (.object C)
  | none => decode (zmB y) pc = .ok (.return_, 1) ∧ zmR y = none
  | _ => False
def zE (X d y pc : Nat) (ls st : List Value) (mem : zMem) (lk : zLk) (L : List Nat) (lkf : zLk) (Lf : List Nat) (Q : Option Value → zMem → Prop) : Prop :=
  ∀ (p : Program) (l : Launch) (e : Env) (R : Room) (s : State) (m : MethodId) (args : Array Value) (below : List Frame) (meth : Method) (c : Code) (H : Heap) (locs : List Loc) (cells slots : Nat) (A : Nat → Prop) (D : va_G) (κ : Nat → ClassId) (φ : Nat → Nat) (Z : State → Prop) (la : Array Slot),
    X ≤ 3072 → zCx d y p R s m args meth c → zLs φ (zmL y) ls la → zSm X A D κ φ mem lk L s H → zXt X A φ mem s s.heap → va_S A s.heap H locs → (∀ q, s.heap.size ≤ q → A q) → zins L ls → zins L st →
    L.length ≤ Lf.length → cells + (Lf.length - L.length) ≤ R.cells → slots + 1300 * (Lf.length - L.length) ≤ R.slots →
    (∀ (r : Option Value) (mem' : zMem) (H' : Heap) (locs' : List Loc) (cells' slots' : Nat) (κ' : Nat → ClassId) (φ' : Nat → Nat) (pc' : Nat) (la' : Array Slot),
      Q r mem' → zSm X A D κ' φ' mem' lkf Lf s H' → zXt X A φ' mem' s s.heap → va_S A s.heap H' locs' → cells' ≤ R.cells → slots' ≤ R.slots → (∀ o, o ∈ L ∨ kd o = 13 → φ' o = φ o) → (∀ o ∈ L, o ∈ Lf) → (∀ v, r = some v → zin Lf v) → zRet y pc' r →
      W p l e R s m args below meth c H' locs' cells' slots' Z (F0 m pc' la' (r.map (ztr φ')).toList)) →
    W p l e R s m args below meth c H locs cells slots Z (F0 m pc la (st.map (ztr φ)))
/-- the room of a call d deep that makes n ids -/
def zRm (d n : Nat) : Room := { frames := d, cells := n, slots := 1300 * n, locals := 100 * d }
def zws (y : Nat) : List Cond := .code (zmN y) (zmB y) (zmL y) (zmR y) :: zgd
def zPre (X : Nat) (A : Nat → Prop) (D : va_G) (κ : Nat → ClassId) (φ : Nat → Nat) (args : List Value) (mem : zMem) (lk : zLk) (L : List Nat) (U : State) : Prop :=
  X ≤ 3072 ∧ zSm X A D κ φ mem lk L U U.heap ∧ zXt X A φ mem U U.heap ∧ (∀ q, U.heap.size ≤ q → A q) ∧ zins L args ∧ (∀ w ∈ znw, va_Nw w U) ∧ va_AO "DishLift$House" U ∧ zA2 U
def zPost (X : Nat) (A : Nat → Prop) (D : va_G) (φ : Nat → Nat) (L : List Nat) (lkf : zLk) (Lf : List Nat) (Q : Option Value → zMem → Prop) : Array Value → State → Outcome → State → Prop := fun _ st oc t =>
  (∃ (r : Option Value) (mem' : zMem) (κ' : Nat → ClassId) (φ' : Nat → Nat), oc = .returned (r.map (ztr φ')) ∧ Q r mem' ∧ zSm X A D κ' φ' mem' lkf Lf t t.heap ∧ zXt X A φ' mem' t t.heap ∧ (∀ o, o ∈ L ∨ kd o = 13 → φ' o = φ o) ∧ (∀ o ∈ L, o ∈ Lf) ∧ (∀ v, r = some v → zin Lf v)) ∧ va_F A st t
/-- a call of method y, at most d deep: it comes back, with Q of its answer and the memory -/
def zOk (X d y : Nat) (args : List Value) (mem : zMem) (lk : zLk) (L : List Nat) (lkf : zLk) (Lf : List Nat) (Q : Option Value → zMem → Prop) : Prop :=
  0 < d ∧ ∀ (l : Launch) (A : Nat → Prop) (D : va_G) (κ : Nat → ClassId) (φ : Nat → Nat), Met l (zmN y) (zws y) (zRm d (Lf.length - L.length)) (va_Pc (args.map (ztr φ)) (zPre X A D κ φ args mem lk L)) (zPost X A D φ L lkf Lf Q) (Lf.length - L.length) (1300 * (Lf.length - L.length)) A
/-! the locals' moves -/
def zkl (ls : List Value) (i : Nat) : List Value := match i with
  | 0 => ls
  | k + 1 => match ls[k]? with
    | some (.long _) => ls.set k zU
    | some (.double _) => ls.set k zU
    | _ => ls
def zs1 (ls : List Value) (i : Nat) (v : Value) : List Value := (zkl ls i).set i v
def zs2 (ls : List Value) (i : Nat) (v : Value) : List Value := ((zkl ls i).set (i + 1) zU).set i v
def zfrom : List zR → Nat → List zR
  | [], _ => []
  | r :: l, pc => bif Nat.beq r.1 pc then r :: l else zfrom l pc
def zargs : List Value → List Value
  | [] => []
  | .long x :: vs => .long x :: zU :: zargs vs
  | .double x :: vs => .double x :: zU :: zargs vs
  | v :: vs => v :: zargs vs
def zpad (n : Nat) (l : List Value) : List Value := l ++ List.replicate (n - l.length) zU
abbrev zK : Type := List zR → List Value → List Value → zMem → zLk → List Nat → Prop
abbrev zB : Type := Nat → List Value → List Value → zMem → zLk → List Nat → Prop
def zjmp (tbl : List zR) (K : zK) (B : zB) (pc a : Nat) (ls st : List Value) (mem : zMem) (lk : zLk) (L : List Nat) : Prop := match Nat.ble a pc with
  | true => B a ls st mem lk L
  | false => K (zfrom tbl a) ls st mem lk L
def zpop : Nat → List Value → List Value → Option (List Value × List Value)
  | 0, acc, st => some (acc, st)
  | n + 1, acc, v :: st => zpop n (v :: acc) st
  | _ + 1, _, [] => none
def zcat (st : List Value) : Nat := (st.map fun v => v.category).sum
def zpush (r : Option Value) (st : List Value) : List Value := match r with
  | some v => v :: st
  | none => st
def zsw (x : Int32) (J : Nat → Prop) (dflt : Nat) : List (Nat × Nat) → Prop
  | [] => J dflt
  | (v, t) :: ts => (x = nI v → J t) ∧ (¬ x = nI v → zsw x J dflt ts)
/-! what stands on the stack, and in the locals -/
def zI1 (st : List Value) (k : Int32 → List Value → Prop) : Prop := match st with
  | .int x :: st' => k x st'
  | _ => False
def zI2 (st : List Value) (k : Int32 → Int32 → List Value → Prop) : Prop := match st with
  | .int z :: .int x :: st' => k z x st'
  | _ => False
def zL1 (st : List Value) (k : Int64 → List Value → Prop) : Prop := match st with
  | .long x :: st' => k x st'
  | _ => False
def zL2 (st : List Value) (k : Int64 → Int64 → List Value → Prop) : Prop := match st with
  | .long z :: .long x :: st' => k z x st'
  | _ => False
def zA1 (st : List Value) (k : Nat → List Value → Prop) : Prop := match st with
  | .ref o :: st' => k o st'
  | _ => False
def zIA (st : List Value) (k : Int32 → Nat → List Value → Prop) : Prop := match st with
  | .int i :: .ref o :: st' => k i o st'
  | _ => False
def zAA (st : List Value) (k : Nat → Nat → List Value → Prop) : Prop := match st with
  | .ref v :: .ref o :: st' => k v o st'
  | _ => False
def zIIA (st : List Value) (k : Int32 → Int32 → Nat → List Value → Prop) : Prop := match st with
  | .int v :: .int i :: .ref o :: st' => k v i o st'
  | _ => False
def zAIA (st : List Value) (k : Nat → Int32 → Nat → List Value → Prop) : Prop := match st with
  | .ref v :: .int i :: .ref o :: st' => k v i o st'
  | _ => False
def zlI (ls : List Value) (i : Nat) (k : Int32 → Prop) : Prop := match ls[i]? with
  | some (.int x) => k x
  | _ => False
def zlL (ls : List Value) (i : Nat) (k : Int64 → Prop) : Prop := match ls[i]? with
  | some (.long x) => k x
  | _ => False
def zlA (ls : List Value) (i : Nat) (k : Nat → Prop) : Prop := match ls[i]? with
  | some (.ref x) => k x
  | _ => False
def zlS (ls : List Value) (i : Nat) (k : Prop) : Prop := match ls[i]? with
  | some _ => k
  | _ => False
def zsg (b : Nat) (p n : Prop) : Prop := match b with
  | 0 => p
  | _ => n
def zcmp (c : ClassFile.Cond) (e ne lt ge gt le : Prop) : Prop := match c with
  | .eq => e
  | .ne => ne
  | .lt => lt
  | .ge => ge
  | .gt => gt
  | .le => le
def zcall (X d : Nat) (Lf : List Nat) (y' al : Nat) (args : List Value) (mem : zMem) (lk : zLk) (L : List Nat) (C : Option Value → zMem → zLk → List Nat → Prop) : Prop :=
  zsg al (zOk X (d - 1) y' args mem lk L lk L (fun r mem' => C r mem' lk L)) (∃ lk' L', L'.length ≤ Lf.length ∧ L.length ≤ L'.length ∧ zOk X (d - 1) y' args mem lk L lk' L' (fun r mem' => C r mem' lk' L'))
def zfit (st : List Value) (k : Prop) : Prop := match Nat.ble (zcat st) 8 with
  | true => k
  | false => False
def zts (ts : List (Nat × Nat)) (k : Nat → Nat → Prop) : Prop := match ts with
  | [(n, al)] => k n al
  | _ => False
def zargS (n : Nat) (st : List Value) (k : List Value → List Value → Prop) : Prop := match zpop n [] st with
  | some (args, st') => k args st'
  | none => False
def zargV (n : Nat) (st : List Value) (k : Nat → List Value → List Value → Prop) : Prop := match zpop (n + 1) [] st with
  | some (.ref o :: args, st') => k o args st'
  | _ => False
def zinv (b : Nat) (s v i n o c mx mn ml : Prop) : Prop := match b with
  | 0 => s
  | 1 => v
  | 2 => i
  | 3 => n
  | 4 => o
  | 5 => c
  | 6 => mx
  | 7 => mn
  | 8 => ml
  | _ => False
def zcpS (st : List Value) (k : Int32 → Int32 → Nat → Int32 → Nat → List Value → Prop) : Prop := match st with
  | .int n :: .int dp :: .ref g :: .int sp :: .ref f :: st' => k n dp g sp f st'
  | _ => False
def zst (X d : Nat) (lkf : zLk) (Lf : List Nat) (Q : Option Value → zMem → Prop) (tbl : List zR) (K : zK) (B : zB) (r : zR) (nxt : List zR) (ls st : List Value) (mem : zMem) (lk : zLk) (L : List Nat) : Prop :=
  match r with
  | (pc, ins, _, _, a, b, _, ts) => match ins with
    | .iconst _ | .bipush _ | .sipush _ | .ldc _ | .ldc_w _ => zsg b (K nxt ls (.int (nI a) :: st) mem lk L) (K nxt ls (.int (-(nI a)) :: st) mem lk L)
    | .lconst _ | .ldc2_w _ => zsg b (K nxt ls (.long (lN a) :: st) mem lk L) (K nxt ls (.long (-(lN a)) :: st) mem lk L)
    | .iload_n k => zlI ls k (fun x => K nxt ls (.int x :: st) mem lk L)
    | .iload k => zlI ls k (fun x => K nxt ls (.int x :: st) mem lk L)
    | .lload_n k => zlL ls k (fun x => K nxt ls (.long x :: st) mem lk L)
    | .lload k => zlL ls k (fun x => K nxt ls (.long x :: st) mem lk L)
    | .aload_n k => zlA ls k (fun x => K nxt ls (.ref x :: st) mem lk L)
    | .aload k => zlA ls k (fun x => K nxt ls (.ref x :: st) mem lk L)
    | .istore_n k => zI1 st (fun x st' => zlS ls k (K nxt (zs1 ls k (.int x)) st' mem lk L))
    | .istore k => zI1 st (fun x st' => zlS ls k (K nxt (zs1 ls k (.int x)) st' mem lk L))
    | .astore_n k => zA1 st (fun x st' => zlS ls k (K nxt (zs1 ls k (.ref x)) st' mem lk L))
    | .astore k => zA1 st (fun x st' => zlS ls k (K nxt (zs1 ls k (.ref x)) st' mem lk L))
    | .lstore_n k => zL1 st (fun x st' => zlS ls ((k : Nat) + 1) (K nxt (zs2 ls k (.long x)) st' mem lk L))
    | .lstore k => zL1 st (fun x st' => zlS ls (k + 1) (K nxt (zs2 ls k (.long x)) st' mem lk L))
    | .iinc k _ => zlI ls k (fun x => zsg b (K nxt (zs1 ls k (.int (x + nI a))) st mem lk L) (K nxt (zs1 ls k (.int (x + -(nI a)))) st mem lk L))
    | .iadd => zI2 st (fun z x st' => K nxt ls (.int (x + z) :: st') mem lk L)
    | .isub => zI2 st (fun z x st' => K nxt ls (.int (x - z) :: st') mem lk L)
    | .imul => zI2 st (fun z x st' => K nxt ls (.int (x * z) :: st') mem lk L)
    | .iand => zI2 st (fun z x st' => K nxt ls (.int (x &&& z) :: st') mem lk L)
    | .ior => zI2 st (fun z x st' => K nxt ls (.int (x ||| z) :: st') mem lk L)
    | .ixor => zI2 st (fun z x st' => K nxt ls (.int (x ^^^ z) :: st') mem lk L)
    | .ishl => zI2 st (fun z x st' => K nxt ls (.int (x <<< (z &&& 31)) :: st') mem lk L)
    | .ishr => zI2 st (fun z x st' => K nxt ls (.int (x >>> (z &&& 31)) :: st') mem lk L)
    | .iushr => zI2 st (fun z x st' => K nxt ls (.int (x.toUInt32 >>> (z.toUInt32 &&& Int32.toUInt32 31)).toInt32 :: st') mem lk L)
    | .idiv => zI2 st (fun z x st' => ¬ z = 0 ∧ K nxt ls (.int (x / z) :: st') mem lk L)
    | .irem => zI2 st (fun z x st' => ¬ z = 0 ∧ K nxt ls (.int (x - x / z * z) :: st') mem lk L)
    | .ineg => zI1 st (fun x st' => K nxt ls (.int (-x) :: st') mem lk L)
    | .ladd => zL2 st (fun z x st' => K nxt ls (.long (x + z) :: st') mem lk L)
    | .lmul => zL2 st (fun z x st' => K nxt ls (.long (x * z) :: st') mem lk L)
    | .ldiv => zL2 st (fun z x st' => ¬ z = 0 ∧ K nxt ls (.long (x / z) :: st') mem lk L)
    | .lrem => zL2 st (fun z x st' => ¬ z = 0 ∧ K nxt ls (.long (x - x / z * z) :: st') mem lk L)
    | .lcmp => zL2 st (fun z x st' => K nxt ls (.int (lg_cmp x z) :: st') mem lk L)
    | .i2l => zI1 st (fun x st' => K nxt ls (.long x.toInt64 :: st') mem lk L)
    | .l2i => zL1 st (fun x st' => K nxt ls (.int x.toInt32 :: st') mem lk L)
    | .i2b => zI1 st (fun x st' => K nxt ls (.int x.toInt8.toInt32 :: st') mem lk L)
    | .i2s => zI1 st (fun x st' => K nxt ls (.int x.toInt16.toInt32 :: st') mem lk L)
    | .dup => (match st with
      | .int x :: st' => K nxt ls (.int x :: .int x :: st') mem lk L
      | .ref x :: st' => K nxt ls (.ref x :: .ref x :: st') mem lk L
      | _ => False)
    | .dup2 => zIA st (fun x o st' => K nxt ls (.int x :: .ref o :: .int x :: .ref o :: st') mem lk L)
    | .ifCond cnd _ => zI1 st (fun x st' => zcmp cnd ((x = 0 → zjmp tbl K B pc a ls st' mem lk L) ∧ (¬ x = 0 → K nxt ls st' mem lk L)) ((¬ x = 0 → zjmp tbl K B pc a ls st' mem lk L) ∧ (x = 0 → K nxt ls st' mem lk L)) ((x < 0 → zjmp tbl K B pc a ls st' mem lk L) ∧ (¬ x < 0 → K nxt ls st' mem lk L)) ((0 ≤ x → zjmp tbl K B pc a ls st' mem lk L) ∧ (¬ 0 ≤ x → K nxt ls st' mem lk L)) ((0 < x → zjmp tbl K B pc a ls st' mem lk L) ∧ (¬ 0 < x → K nxt ls st' mem lk L)) ((x ≤ 0 → zjmp tbl K B pc a ls st' mem lk L) ∧ (¬ x ≤ 0 → K nxt ls st' mem lk L)))
    | .if_icmp cnd _ => zI2 st (fun z x st' => zcmp cnd ((x = z → zjmp tbl K B pc a ls st' mem lk L) ∧ (¬ x = z → K nxt ls st' mem lk L)) ((¬ x = z → zjmp tbl K B pc a ls st' mem lk L) ∧ (x = z → K nxt ls st' mem lk L)) ((x < z → zjmp tbl K B pc a ls st' mem lk L) ∧ (¬ x < z → K nxt ls st' mem lk L)) ((z ≤ x → zjmp tbl K B pc a ls st' mem lk L) ∧ (¬ z ≤ x → K nxt ls st' mem lk L)) ((z < x → zjmp tbl K B pc a ls st' mem lk L) ∧ (¬ z < x → K nxt ls st' mem lk L)) ((x ≤ z → zjmp tbl K B pc a ls st' mem lk L) ∧ (¬ x ≤ z → K nxt ls st' mem lk L)))
    | .goto _ => zjmp tbl K B pc a ls st mem lk L
    | .ifnull _ => (match st with
      | .ref _ :: st' => K nxt ls st' mem lk L
      | .null :: st' => zjmp tbl K B pc a ls st' mem lk L
      | _ => False)
    | .ifnonnull _ => (match st with
      | .ref _ :: st' => zjmp tbl K B pc a ls st' mem lk L
      | .null :: st' => K nxt ls st' mem lk L
      | _ => False)
    | .tableswitch .. | .lookupswitch .. => zI1 st (fun x st' => zsw x (fun t => zjmp tbl K B pc t ls st' mem lk L) a ts)
    | .getfield _ => zA1 st (fun o st' => zts ts (fun _ i => zsg i (kd o = a ∧ ∃ t, lk (o + b) = some t ∧ K nxt ls (.ref t :: st') mem lk L) (kd o = a ∧ K nxt ls (.int (mem (o + b)) :: st') mem lk L)))
    | .putfield _ => zts ts (fun _ i => zsg i (zAA st (fun v o st' => kd o = a ∧ kd v ≠ 13 ∧ K nxt ls st' mem (va_up lk (o + b) (some v)) L)) (zIA st (fun v o st' => kd o = a ∧ K nxt ls st' (upd mem (o + b) v) lk L)))
    | .getstatic _ => K nxt ls (.ref a :: st) mem lk L
    | .iaload => zIA st (fun i o st' => (kd o = 9 ∨ kd o = 13) ∧ vp_in i (ln X o) ∧ K nxt ls (.int (mem (o + i.toNatClampNeg)) :: st') mem lk L)
    | .iastore => zIIA st (fun v i o st' => kd o = 9 ∧ vp_in i (ln X o) ∧ K nxt ls st' (upd mem (o + i.toNatClampNeg) v) lk L)
    | .baload => zIA st (fun i o st' => kd o = 10 ∧ vp_in i (ln X o) ∧ K nxt ls (.int (mem (o + i.toNatClampNeg)) :: st') mem lk L)
    | .bastore => zIIA st (fun v i o st' => kd o = 10 ∧ vp_in i (ln X o) ∧ vp_nar .boolean v = v ∧ K nxt ls st' (upd mem (o + i.toNatClampNeg) v) lk L)
    | .aaload => zIA st (fun i o st' => (kd o = 11 ∨ kd o = 12) ∧ vp_in i (ln X o) ∧ (lk (o + i.toNatClampNeg) = none → K nxt ls (.null :: st') mem lk L) ∧ (∀ t, lk (o + i.toNatClampNeg) = some t → K nxt ls (.ref t :: st') mem lk L))
    | .aastore => zAIA st (fun v i o st' => kd o = 11 ∧ kd v = 3 ∧ vp_in i (ln X o) ∧ K nxt ls st' mem (va_up lk (o + i.toNatClampNeg) (some v)) L)
    | .arraylength => zA1 st (fun o st' => (9 ≤ kd o ∧ kd o ≤ 13) ∧ K nxt ls (.int (nI (ln X o)) :: st') mem lk L)
    | .new _ => ∃ o, kd o = a ∧ o ∉ L ∧ L.length + 1 ≤ Lf.length ∧ K nxt ls (.ref o :: st) (zclr o mem) (zclk o lk) (L ++ [o])
    | .newarray .int => zI1 st (fun n st' => ∃ o, kd o = 9 ∧ n = nI (ln X o) ∧ o ∉ L ∧ L.length + 1 ≤ Lf.length ∧ K nxt ls (.ref o :: st') (zclr o mem) (zclk o lk) (L ++ [o]))
    | .newarray .boolean => zI1 st (fun n st' => ∃ o, kd o = 10 ∧ n = nI (ln X o) ∧ o ∉ L ∧ L.length + 1 ≤ Lf.length ∧ K nxt ls (.ref o :: st') (zclr o mem) (zclk o lk) (L ++ [o]))
    | .anewarray _ => zI1 st (fun n st' => ∃ o, kd o = 11 ∧ n = nI (ln X o) ∧ o ∉ L ∧ L.length + 1 ≤ Lf.length ∧ K nxt ls (.ref o :: st') (zclr o mem) (zclk o lk) (L ++ [o]))
    | .invokevirtual _ | .invokestatic _ | .invokespecial _ => zinv b
      (zts ts (fun n al => zargS n st (fun args st' => zfit st' (zcall X d Lf a al args mem lk L (fun r mem' lk' L' => K nxt ls (zpush r st') mem' lk' L')))))
      (zts ts (fun n al => zargV n st (fun o args st' => zfit st' ((zmF a)[7]? = some (kd o) ∧ zcall X d Lf a al (.ref o :: args) mem lk L (fun r mem' lk' L' => K nxt ls (zpush r st') mem' lk' L')))))
      (zts ts (fun n al => zargV n st (fun o args st' => zfit st' (zcall X d Lf a al (.ref o :: args) mem lk L (fun r mem' lk' L' => K nxt ls (zpush r st') mem' lk' L')))))
      (zts ts (fun n al => zargV n st (fun o args st' => zfit st' (zcall X d Lf a al (.ref o :: args) mem lk L (fun r mem' lk' L' => K nxt ls (zpush r st') mem' lk' L')))))
      (zA1 st (fun _ st' => zfit st' (K nxt ls st' mem lk L)))
      (zcpS st (fun n dp g sp f st' => zfit st' (kd f = 9 ∧ kd g = 9 ∧ ¬ sp < 0 ∧ ¬ dp < 0 ∧ ¬ n < 0 ∧ sp.toNatClampNeg + n.toNatClampNeg ≤ ln X f ∧ dp.toNatClampNeg + n.toNatClampNeg ≤ ln X g ∧ K nxt ls st' (fun x => if g + dp.toNatClampNeg ≤ x ∧ x < g + dp.toNatClampNeg + n.toNatClampNeg then mem (f + sp.toNatClampNeg + (x - (g + dp.toNatClampNeg))) else mem x) lk L)))
      (zI2 st (fun z x st' => zfit st' (K nxt ls (.int (if x < z then z else x) :: st') mem lk L)))
      (zI2 st (fun z x st' => zfit st' (K nxt ls (.int (if z < x then z else x) :: st') mem lk L)))
      (zL2 st (fun z x st' => zfit st' (K nxt ls (.long (if z < x then x else z) :: st') mem lk L)))
    | .ireturn => (match st with
      | [.int v] => zsg b (lk = lkf ∧ L = Lf ∧ Q (some (.int v)) mem) (lk = lkf ∧ L = Lf ∧ narrow .boolean (.int v) = .int v ∧ Q (some (.int v)) mem)
      | _ => False)
    | .lreturn => (match st with
      | [.long v] => lk = lkf ∧ L = Lf ∧ Q (some (.long v)) mem
      | _ => False)
    | .areturn => (match st with
      | [.ref v] => lk = lkf ∧ L = Lf ∧ Q (some (.ref v)) mem
      | _ => False)
    | .return_ => (match st with
      | [] => lk = lkf ∧ L = Lf ∧ Q none mem
      | _ => False)
    | _ => False
/-- rows from here on, up to n, to the next head of a loop -/
def zwp (X d y : Nat) (lkf : zLk) (Lf : List Nat) (Q : Option Value → zMem → Prop) (tbl : List zR) : Nat → zK
  | 0, [], _, _, _, _, _ => False
  | 0, r :: _, ls, st, mem, lk, L => zE X d y r.1 ls st mem lk L lkf Lf Q
  | _ + 1, [], _, _, _, _, _ => False
  | n + 1, r :: nxt, ls, st, mem, lk, L => match r.2.2.2.1 with
    | 0 => zst X d lkf Lf Q tbl (zwp X d y lkf Lf Q tbl n) (fun a ls st mem lk L => zE X d y a ls st mem lk L lkf Lf Q) r nxt ls st mem lk L
    | _ => zE X d y r.1 ls st mem lk L lkf Lf Q
