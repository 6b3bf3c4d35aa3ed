/-! THE WALK: zE (from a place in a method), zOk (a call), zst (a row as a condition), zwp (rows as a condition) -/
abbrev zU : Value := .retAddr 0
abbrev zmN (y : Nat) : MethodName := (zm y).1
abbrev zmB (y : Nat) : ByteArray := (zm y).2.1
abbrev zmL (y : Nat) : Nat := (zm y).2.2.1
abbrev zmR (y : Nat) : Option FieldType := (zm y).2.2.2.1
abbrev zmO (y : Nat) : String := (zm y).2.2.2.2.1
abbrev zmT (y : Nat) : List zR := (zm y).2.2.2.2.2.1
abbrev zmF (y : Nat) : List Nat := (zm y).2.2.2.2.2.2
/-- what stands all through a method's body -/
def zCx (d y : Nat) (p : Program) (R : Room) (s : State) (m : MethodId) (args : Array Value) (meth : Method) (c : Code) : Prop :=
  0 < d ∧ p.tables.exec = Jvm.exec ∧ c.code = zmB y ∧ meth.sig.returnType = zmR y ∧ c.maxLocals = zmL y ∧ s.vm.findClass (zmO y) = some m.cls ∧ meth.locks = false ∧ meth.name = (zmN y).name ∧
  (∀ w ∈ zgd, w.before args s = true) ∧ (∀ w ∈ znw, va_Nw w s) ∧ va_AO "DishLift$House" s ∧ d ≤ R.frames ∧ 100 * d ≤ R.locals
/-- the locals -/
def zLs (φ : Nat → Nat) (n : Nat) (ls : List Value) (la : Array Slot) : Prop := la.size = n ∧ lv_wf la ∧ ls.length = n ∧ ∀ (i : Nat) (v : Value), ls[i]? = some v → v ≠ zU → la[i]? = some (.val (ztr φ v))
/-- where a method may return, and with what -/
def zRet (y pc : Nat) (r : Option Value) : Prop := match r with
  | some (.int v) => decode (zmB y) pc = .ok (.ireturn, 1) ∧ (zmR y = some .int ∨ (zmR y = some .boolean ∧ narrow .boolean (.int v) = .int v))
  | some (.long _) => decode (zmB y) pc = .ok (.lreturn, 1) ∧ zmR y = some .long
  | some (.ref _) => decode (zmB y) pc = .ok (.areturn, 1) ∧ ∃ C, zmR y = some (.object C)
  | none => decode (zmB y) pc = .ok (.return_, 1) ∧ zmR y = none
  | _ => False
def zE (X d y pc : Nat) (ls st : List Value) (mem : zMem) (lk : zLk) (L : List Nat) (lkf : zLk) (Lf : List Nat) (Q : Option Value → zMem → Prop) : Prop :=
  ∀ (p : Program) (l : Launch) (e : Env) (R : Room) (s : State) (m : MethodId) (args : Array Value) (below : List Frame) (meth : Method) (c : Code) (H : Heap) (locs : List Loc) (cells slots : Nat) (A : Nat → Prop) (D : va_G) (κ : Nat → ClassId) (φ : Nat → Nat) (Z : State → Prop) (la : Array Slot),
    X ≤ 3072 → zCx d y p R s m args meth c → zLs φ (zmL y) ls la → zSm X A D κ φ mem lk L s H → zXt X A φ mem s s.heap → va_S A s.heap H locs → (∀ q, s.heap.size ≤ q → A q) → zins L ls → zins L st →
    L.length ≤ Lf.length → cells + (Lf.length - L.length) ≤ R.cells → slots + 1300 * (Lf.length - L.length) ≤ R.slots →
    (∀ (r : Option Value) (mem' : zMem) (H' : Heap) (locs' : List Loc) (cells' slots' : Nat) (κ' : Nat → ClassId) (φ' : Nat → Nat) (pc' : Nat) (la' : Array Slot),
      Q r mem' → zSm X A D κ' φ' mem' lkf Lf s H' → zXt X A φ' mem' s s.heap → va_S A s.heap H' locs' → cells' ≤ R.cells → slots' ≤ R.slots → (∀ o, o ∈ L ∨ kd o = 13 → φ' o = φ o) → (∀ o ∈ L, o ∈ Lf) → (∀ v, r = some v → zin Lf v) → zRet y pc' r →
      W p l e R s m args below meth c H' locs' cells' slots' Z (F0 m pc' la' (r.map (ztr φ')).toList)) →
    W p l e R s m args below meth c H locs cells slots Z (F0 m pc la (st.map (ztr φ)))
/-- the room of a call d deep that makes n ids -/
def zRm (d n : Nat) : Room := { frames := d, cells := n, slots := 1300 * n, locals := 100 * d }
def zws (y : Nat) : List Cond := .code (zmN y) (zmB y) (zmL y) (zmR y) :: zgd
def zPre (X : Nat) (A : Nat → Prop) (D : va_G) (κ : Nat → ClassId) (φ : Nat → Nat) (args : List Value) (mem : zMem) (lk : zLk) (L : List Nat) (U : State) : Prop :=
  X ≤ 3072 ∧ zSm X A D κ φ mem lk L U U.heap ∧ zXt X A φ mem U U.heap ∧ (∀ q, U.heap.size ≤ q → A q) ∧ zins L args ∧ (∀ w ∈ znw, va_Nw w U) ∧ va_AO "DishLift$House" U
def zPost (X : Nat) (A : Nat → Prop) (D : va_G) (φ : Nat → Nat) (L : List Nat) (lkf : zLk) (Lf : List Nat) (Q : Option Value → zMem → Prop) : Array Value → State → Outcome → State → Prop := fun _ st oc t =>
  (∃ (r : Option Value) (mem' : zMem) (κ' : Nat → ClassId) (φ' : Nat → Nat), oc = .returned (r.map (ztr φ')) ∧ Q r mem' ∧ zSm X A D κ' φ' mem' lkf Lf t t.heap ∧ zXt X A φ' mem' t t.heap ∧ (∀ o, o ∈ L ∨ kd o = 13 → φ' o = φ o) ∧ (∀ o ∈ L, o ∈ Lf) ∧ (∀ v, r = some v → zin Lf v)) ∧ va_F A st t
/-- a call of method y, at most d deep: it comes back, with Q of its answer and the memory -/
def zOk (X d y : Nat) (args : List Value) (mem : zMem) (lk : zLk) (L : List Nat) (lkf : zLk) (Lf : List Nat) (Q : Option Value → zMem → Prop) : Prop :=
  0 < d ∧ ∀ (l : Launch) (A : Nat → Prop) (D : va_G) (κ : Nat → ClassId) (φ : Nat → Nat), Met l (zmN y) (zws y) (zRm d (Lf.length - L.length)) (va_Pc (args.map (ztr φ)) (zPre X A D κ φ args mem lk L)) (zPost X A D φ L lkf Lf Q) (Lf.length - L.length) (1300 * (Lf.length - L.length)) A
/-! the locals' moves -/
def zkl (ls : List Value) (i : Nat) : List Value := match i with
  | 0 => ls
  | k + 1 => match ls[k]? with
    | some (.long _) => ls.set k zU
    | some (.double _) => ls.set k zU
    | _ => ls
def zs1 (ls : List Value) (i : Nat) (v : Value) : List Value := (zkl ls i).set i v
def zs2 (ls : List Value) (i : Nat) (v : Value) : List Value := ((zkl ls i).set (i + 1) zU).set i v
def zfrom : List zR → Nat → List zR
  | [], _ => []
  | r :: l, pc => bif Nat.beq r.1 pc then r :: l else zfrom l pc
def zargs : List Value → List Value
  | [] => []
  | .long x :: vs => .long x :: zU :: zargs vs
  | .double x :: vs => .double x :: zU :: zargs vs
  | v :: vs => v :: zargs vs
def zpad (n : Nat) (l : List Value) : List Value := l ++ List.replicate (n - l.length) zU
abbrev zK : Type := List zR → List Value → List Value → zMem → zLk → List Nat → Prop
abbrev zB : Type := Nat → List Value → List Value → zMem → zLk → List Nat → Prop
def zjmp (tbl : List zR) (K : zK) (B : zB) (pc a : Nat) (ls st : List Value) (mem : zMem) (lk : zLk) (L : List Nat) : Prop := match Nat.ble a pc with
  | true => B a ls st mem lk L
  | false => K (zfrom tbl a) ls st mem lk L
def zpop : Nat → List Value → List Value → Option (List Value × List Value)
  | 0, acc, st => some (acc, st)
  | n + 1, acc, v :: st => zpop n (v :: acc) st
  | _ + 1, _, [] => none
def zcat (st : List Value) : Nat := (st.map fun v => v.category).sum
def zpush (r : Option Value) (st : List Value) : List Value := match r with
  | some v => v :: st
  | none => st
def zsw (x : Int32) (J : Nat → Prop) (dflt : Nat) : List (Nat × Nat) → Prop
  | [] => J dflt
  | (v, t) :: ts => (x = nI v → J t) ∧ (¬ x = nI v → zsw x J dflt ts)
/-- which rows the walk knows a branch of -/
def zcall (X d : Nat) (Lf : List Nat) (y' al : Nat) (args : List Value) (mem : zMem) (lk : zLk) (L : List Nat) (C : Option Value → zMem → zLk → List Nat → Prop) : Prop := match al with
  | 0 => zOk X (d - 1) y' args mem lk L lk L (fun r mem' => C r mem' lk L)
  | _ => ∃ lk' L', L'.length ≤ Lf.length ∧ L.length ≤ L'.length ∧ zOk X (d - 1) y' args mem lk L lk' L' (fun r mem' => C r mem' lk' L')
def zst (X d : Nat) (lkf : zLk) (Lf : List Nat) (Q : Option Value → zMem → Prop) (tbl : List zR) (K : zK) (B : zB) (r : zR) (nxt : List zR) (ls st : List Value) (mem : zMem) (lk : zLk) (L : List Nat) : Prop :=
  match r with
  | (pc, ins, _, _, a, b, _, ts) => match ins with
    | .iconst _ | .bipush _ | .sipush _ | .ldc _ | .ldc_w _ => (match b with
      | 0 => K nxt ls (.int (nI a) :: st) mem lk L
      | _ => K nxt ls (.int (-(nI a)) :: st) mem lk L)
    | .lconst _ | .ldc2_w _ => (match b with
      | 0 => K nxt ls (.long (lN a) :: st) mem lk L
      | _ => K nxt ls (.long (-(lN a)) :: st) mem lk L)
    | .iload_n k => (match ls[(k : Nat)]? with
      | some (.int x) => K nxt ls (.int x :: st) mem lk L
      | _ => False)
    | .iload k => (match ls[k]? with
      | some (.int x) => K nxt ls (.int x :: st) mem lk L
      | _ => False)
    | .lload_n k => (match ls[(k : Nat)]? with
      | some (.long x) => K nxt ls (.long x :: st) mem lk L
      | _ => False)
    | .lload k => (match ls[k]? with
      | some (.long x) => K nxt ls (.long x :: st) mem lk L
      | _ => False)
    | .aload_n k => (match ls[(k : Nat)]? with
      | some (.ref x) => K nxt ls (.ref x :: st) mem lk L
      | _ => False)
    | .aload k => (match ls[k]? with
      | some (.ref x) => K nxt ls (.ref x :: st) mem lk L
      | _ => False)
    | .istore_n k => (match st, ls[(k : Nat)]? with
      | .int x :: st', some _ => K nxt (zs1 ls k (.int x)) st' mem lk L
      | _, _ => False)
    | .istore k => (match st, ls[k]? with
      | .int x :: st', some _ => K nxt (zs1 ls k (.int x)) st' mem lk L
      | _, _ => False)
    | .astore_n k => (match st, ls[(k : Nat)]? with
      | .ref x :: st', some _ => K nxt (zs1 ls k (.ref x)) st' mem lk L
      | _, _ => False)
    | .astore k => (match st, ls[k]? with
      | .ref x :: st', some _ => K nxt (zs1 ls k (.ref x)) st' mem lk L
      | _, _ => False)
    | .lstore_n k => (match st, ls[(k : Nat) + 1]? with
      | .long x :: st', some _ => K nxt (zs2 ls k (.long x)) st' mem lk L
      | _, _ => False)
    | .lstore k => (match st, ls[k + 1]? with
      | .long x :: st', some _ => K nxt (zs2 ls k (.long x)) st' mem lk L
      | _, _ => False)
    | .iinc k _ => (match ls[k]?, b with
      | some (.int x), 0 => K nxt (zs1 ls k (.int (x + nI a))) st mem lk L
      | some (.int x), _ + 1 => K nxt (zs1 ls k (.int (x + -(nI a)))) st mem lk L
      | _, _ => False)
    | .iadd => (match st with
      | .int y :: .int x :: st' => K nxt ls (.int (x + y) :: st') mem lk L
      | _ => False)
    | .isub => (match st with
      | .int y :: .int x :: st' => K nxt ls (.int (x - y) :: st') mem lk L
      | _ => False)
    | .imul => (match st with
      | .int y :: .int x :: st' => K nxt ls (.int (x * y) :: st') mem lk L
      | _ => False)
    | .iand => (match st with
      | .int y :: .int x :: st' => K nxt ls (.int (x &&& y) :: st') mem lk L
      | _ => False)
    | .ior => (match st with
      | .int y :: .int x :: st' => K nxt ls (.int (x ||| y) :: st') mem lk L
      | _ => False)
    | .ixor => (match st with
      | .int y :: .int x :: st' => K nxt ls (.int (x ^^^ y) :: st') mem lk L
      | _ => False)
    | .idiv => (match st with
      | .int y :: .int x :: st' => ¬ y = 0 ∧ K nxt ls (.int (x / y) :: st') mem lk L
      | _ => False)
    | .irem => (match st with
      | .int y :: .int x :: st' => ¬ y = 0 ∧ K nxt ls (.int (x - x / y * y) :: st') mem lk L
      | _ => False)
    | .ineg => (match st with
      | .int x :: st' => K nxt ls (.int (-x) :: st') mem lk L
      | _ => False)
    | .ishl => (match st with
      | .int y :: .int x :: st' => K nxt ls (.int (x <<< (y &&& 31)) :: st') mem lk L
      | _ => False)
    | .ishr => (match st with
      | .int y :: .int x :: st' => K nxt ls (.int (x >>> (y &&& 31)) :: st') mem lk L
      | _ => False)
    | .iushr => (match st with
      | .int y :: .int x :: st' => K nxt ls (.int (x.toUInt32 >>> (y.toUInt32 &&& Int32.toUInt32 31)).toInt32 :: st') mem lk L
      | _ => False)
    | .ladd => (match st with
      | .long y :: .long x :: st' => K nxt ls (.long (x + y) :: st') mem lk L
      | _ => False)
    | .lmul => (match st with
      | .long y :: .long x :: st' => K nxt ls (.long (x * y) :: st') mem lk L
      | _ => False)
    | .ldiv => (match st with
      | .long y :: .long x :: st' => ¬ y = 0 ∧ K nxt ls (.long (x / y) :: st') mem lk L
      | _ => False)
    | .lrem => (match st with
      | .long y :: .long x :: st' => ¬ y = 0 ∧ K nxt ls (.long (x - x / y * y) :: st') mem lk L
      | _ => False)
    | .lcmp => (match st with
      | .long y :: .long x :: st' => K nxt ls (.int (lg_cmp x y) :: st') mem lk L
      | _ => False)
    | .i2l => (match st with
      | .int x :: st' => K nxt ls (.long x.toInt64 :: st') mem lk L
      | _ => False)
    | .l2i => (match st with
      | .long x :: st' => K nxt ls (.int x.toInt32 :: st') mem lk L
      | _ => False)
    | .i2b => (match st with
      | .int x :: st' => K nxt ls (.int x.toInt8.toInt32 :: st') mem lk L
      | _ => False)
    | .i2s => (match st with
      | .int x :: st' => K nxt ls (.int x.toInt16.toInt32 :: st') mem lk L
      | _ => False)
    | .dup => (match st with
      | .int x :: st' => K nxt ls (.int x :: .int x :: st') mem lk L
      | .ref x :: st' => K nxt ls (.ref x :: .ref x :: st') mem lk L
      | _ => False)
    | .dup2 => (match st with
      | .int x :: .ref o :: st' => K nxt ls (.int x :: .ref o :: .int x :: .ref o :: st') mem lk L
      | _ => False)
    | .ifCond cnd _ => (match st, cnd with
      | .int x :: st', .eq => (x = 0 → zjmp tbl K B pc a ls st' mem lk L) ∧ (¬ x = 0 → K nxt ls st' mem lk L)
      | .int x :: st', .ne => (¬ x = 0 → zjmp tbl K B pc a ls st' mem lk L) ∧ (x = 0 → K nxt ls st' mem lk L)
      | .int x :: st', .lt => (x < 0 → zjmp tbl K B pc a ls st' mem lk L) ∧ (¬ x < 0 → K nxt ls st' mem lk L)
      | .int x :: st', .ge => (0 ≤ x → zjmp tbl K B pc a ls st' mem lk L) ∧ (¬ 0 ≤ x → K nxt ls st' mem lk L)
      | .int x :: st', .gt => (0 < x → zjmp tbl K B pc a ls st' mem lk L) ∧ (¬ 0 < x → K nxt ls st' mem lk L)
      | .int x :: st', .le => (x ≤ 0 → zjmp tbl K B pc a ls st' mem lk L) ∧ (¬ x ≤ 0 → K nxt ls st' mem lk L)
      | _, _ => False)
    | .if_icmp cnd _ => (match st, cnd with
      | .int y :: .int x :: st', .eq => (x = y → zjmp tbl K B pc a ls st' mem lk L) ∧ (¬ x = y → K nxt ls st' mem lk L)
      | .int y :: .int x :: st', .ne => (¬ x = y → zjmp tbl K B pc a ls st' mem lk L) ∧ (x = y → K nxt ls st' mem lk L)
      | .int y :: .int x :: st', .lt => (x < y → zjmp tbl K B pc a ls st' mem lk L) ∧ (¬ x < y → K nxt ls st' mem lk L)
      | .int y :: .int x :: st', .ge => (y ≤ x → zjmp tbl K B pc a ls st' mem lk L) ∧ (¬ y ≤ x → K nxt ls st' mem lk L)
      | .int y :: .int x :: st', .gt => (y < x → zjmp tbl K B pc a ls st' mem lk L) ∧ (¬ y < x → K nxt ls st' mem lk L)
      | .int y :: .int x :: st', .le => (x ≤ y → zjmp tbl K B pc a ls st' mem lk L) ∧ (¬ x ≤ y → K nxt ls st' mem lk L)
      | _, _ => False)
    | .goto _ => zjmp tbl K B pc a ls st mem lk L
    | .ifnull _ => (match st with
      | .ref _ :: st' => K nxt ls st' mem lk L
      | .null :: st' => zjmp tbl K B pc a ls st' mem lk L
      | _ => False)
    | .ifnonnull _ => (match st with
      | .ref _ :: st' => zjmp tbl K B pc a ls st' mem lk L
      | .null :: st' => K nxt ls st' mem lk L
      | _ => False)
    | .tableswitch .. | .lookupswitch .. => (match st with
      | .int x :: st' => zsw x (fun t => zjmp tbl K B pc t ls st' mem lk L) a ts
      | _ => False)
    | .getfield _ => (match st, ts with
      | .ref o :: st', [(_, 0)] => kd o = a ∧ ∃ t, lk (o + b) = some t ∧ K nxt ls (.ref t :: st') mem lk L
      | .ref o :: st', [(_, _ + 1)] => kd o = a ∧ K nxt ls (.int (mem (o + b)) :: st') mem lk L
      | _, _ => False)
    | .putfield _ => (match st, ts with
      | .ref v :: .ref o :: st', [(_, 0)] => kd o = a ∧ kd v ≠ 13 ∧ K nxt ls st' mem (va_up lk (o + b) (some v)) L
      | .int v :: .ref o :: st', [(_, _ + 1)] => kd o = a ∧ K nxt ls st' (upd mem (o + b) v) lk L
      | _, _ => False)
    | .getstatic _ => K nxt ls (.ref a :: st) mem lk L
    | .iaload => (match st with
      | .int i :: .ref o :: st' => (kd o = 9 ∨ kd o = 13) ∧ vp_in i (ln X o) ∧ K nxt ls (.int (mem (o + i.toNatClampNeg)) :: st') mem lk L
      | _ => False)
    | .iastore => (match st with
      | .int v :: .int i :: .ref o :: st' => kd o = 9 ∧ vp_in i (ln X o) ∧ K nxt ls st' (upd mem (o + i.toNatClampNeg) v) lk L
      | _ => False)
    | .baload => (match st with
      | .int i :: .ref o :: st' => kd o = 10 ∧ vp_in i (ln X o) ∧ K nxt ls (.int (mem (o + i.toNatClampNeg)) :: st') mem lk L
      | _ => False)
    | .bastore => (match st with
      | .int v :: .int i :: .ref o :: st' => kd o = 10 ∧ vp_in i (ln X o) ∧ vp_nar .boolean v = v ∧ K nxt ls st' (upd mem (o + i.toNatClampNeg) v) lk L
      | _ => False)
    | .aaload => (match st with
      | .int i :: .ref o :: st' => (kd o = 11 ∨ kd o = 12) ∧ vp_in i (ln X o) ∧ (lk (o + i.toNatClampNeg) = none → K nxt ls (.null :: st') mem lk L) ∧ (∀ t, lk (o + i.toNatClampNeg) = some t → K nxt ls (.ref t :: st') mem lk L)
      | _ => False)
    | .aastore => (match st with
      | .ref v :: .int i :: .ref o :: st' => kd o = 11 ∧ kd v = 3 ∧ vp_in i (ln X o) ∧ K nxt ls st' mem (va_up lk (o + i.toNatClampNeg) (some v)) L
      | _ => False)
    | .arraylength => (match st with
      | .ref o :: st' => (9 ≤ kd o ∧ kd o ≤ 13) ∧ K nxt ls (.int (nI (ln X o)) :: st') mem lk L
      | _ => False)
    | .new _ => ∃ o, kd o = a ∧ o ∉ L ∧ L.length + 1 ≤ Lf.length ∧ K nxt ls (.ref o :: st) (zclr o mem) (zclk o lk) (L ++ [o])
    | .newarray t => (match st, t with
      | .int n :: st', .int => ∃ o, kd o = 9 ∧ n = nI (ln X o) ∧ o ∉ L ∧ L.length + 1 ≤ Lf.length ∧ K nxt ls (.ref o :: st') (zclr o mem) (zclk o lk) (L ++ [o])
      | .int n :: st', .boolean => ∃ o, kd o = 10 ∧ n = nI (ln X o) ∧ o ∉ L ∧ L.length + 1 ≤ Lf.length ∧ K nxt ls (.ref o :: st') (zclr o mem) (zclk o lk) (L ++ [o])
      | _, _ => False)
    | .anewarray _ => (match st with
      | .int n :: st' => ∃ o, kd o = 11 ∧ n = nI (ln X o) ∧ o ∉ L ∧ L.length + 1 ≤ Lf.length ∧ K nxt ls (.ref o :: st') (zclr o mem) (zclk o lk) (L ++ [o])
      | _ => False)
    | .invokevirtual _ | .invokestatic _ | .invokespecial _ => (match b, ts with
      | 0, [(n, al)] => (match zpop n [] st with
        | some (args, st') => (match Nat.ble (zcat st') 8 with
          | true => zcall X d Lf a al args mem lk L (fun r mem' lk' L' => K nxt ls (zpush r st') mem' lk' L')
          | false => False)
        | none => False)
      | 1, [(n, al)] | 2, [(n, al)] | 3, [(n, al)] => (match zpop (n + 1) [] st with
        | some (.ref o :: args, st') => (match Nat.ble (zcat st') 8 with
          | true => (zmF a)[7]? = some (kd o) ∧ zcall X d Lf a al (.ref o :: args) mem lk L (fun r mem' lk' L' => K nxt ls (zpush r st') mem' lk' L')
          | false => False)
        | _ => False)
      | 4, _ => (match st with
        | .ref _ :: st' => (match Nat.ble (zcat st') 8 with
          | true => K nxt ls st' mem lk L
          | false => False)
        | _ => False)
      | 5, _ => (match st with
        | .int n :: .int dp :: .ref g :: .int sp :: .ref f :: st' => (match Nat.ble (zcat st') 8 with
          | true => kd f = 9 ∧ kd g = 9 ∧ ¬ sp < 0 ∧ ¬ dp < 0 ∧ ¬ n < 0 ∧ sp.toNatClampNeg + n.toNatClampNeg ≤ ln X f ∧ dp.toNatClampNeg + n.toNatClampNeg ≤ ln X g ∧
            K nxt ls st' (fun x => if g + dp.toNatClampNeg ≤ x ∧ x < g + dp.toNatClampNeg + n.toNatClampNeg then mem (f + sp.toNatClampNeg + (x - (g + dp.toNatClampNeg))) else mem x) lk L
          | false => False)
        | _ => False)
      | _, _ => False)
    | .ireturn => (match st, b with
      | [.int v], 0 => lk = lkf ∧ L = Lf ∧ Q (some (.int v)) mem
      | [.int v], _ + 1 => lk = lkf ∧ L = Lf ∧ narrow .boolean (.int v) = .int v ∧ Q (some (.int v)) mem
      | _, _ => False)
    | .lreturn => (match st with
      | [.long v] => lk = lkf ∧ L = Lf ∧ Q (some (.long v)) mem
      | _ => False)
    | .areturn => (match st with
      | [.ref v] => lk = lkf ∧ L = Lf ∧ Q (some (.ref v)) mem
      | _ => False)
    | .return_ => (match st with
      | [] => lk = lkf ∧ L = Lf ∧ Q none mem
      | _ => False)
    | _ => False
/-- rows from here on, up to n, to the next head of a loop -/
def zwp (X d y : Nat) (lkf : zLk) (Lf : List Nat) (Q : Option Value → zMem → Prop) (tbl : List zR) : Nat → zK
  | 0, [], _, _, _, _, _ => False
  | 0, r :: _, ls, st, mem, lk, L => zE X d y r.1 ls st mem lk L lkf Lf Q
  | _ + 1, [], _, _, _, _, _ => False
  | n + 1, r :: nxt, ls, st, mem, lk, L => match r.2.2.2.1 with
    | 0 => zst X d lkf Lf Q tbl (zwp X d y lkf Lf Q tbl n) (fun a ls st mem lk L => zE X d y a ls st mem lk L lkf Lf Q) r nxt ls st mem lk L
    | _ => zE X d y r.1 ls st mem lk L lkf Lf Q
