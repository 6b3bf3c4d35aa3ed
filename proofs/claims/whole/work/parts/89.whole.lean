/-! the whole claim -/
/-! THE CLAIM OUT OF ONE WALK OF THE LAW'S BODY. Your part is whole_start (and what it stands on); all else here is the same for every law, but numbers. -/
def R_law : String := "DishLiftLaw"
def lw_P (b : Addr) (xs : List Int32) (args : Array Value) (s : State) : Prop := args = #[.ref b] ∧ s.IntsAt b xs ∧ xs.length ≤ 3072 ∧ (Jvm.Cond.and given_1 narrow_1).before args s = true
def lw_Q (_ : Array Value) (s : State) (o : Outcome) (t : State) : Prop := o = .returned (some (.int 1)) ∧ Framed s o t [] 600000 7302250
def lw_Z (below : List Frame) (a : Array Value) (s : State) : State → Prop := fun t => ∃ o, t.status = .running ∧ Ended t below o ∧ lw_Q a s o t
/-- the law's own end, with 1 on the stack, nothing written that was there before, its room as the claim has it -/
theorem lw_ret {p : Program} {l : Launch} {e : Env} {s : State} {m : MethodId} {below : List Frame} {meth : Method} {c : Code} {b : Nat} (hx : p.tables.exec = Jvm.exec) (hb : c.code = code) (hr : meth.sig.returnType = ret) (hlocks : meth.locks = false) {pc : Nat} {H : Heap} {ls : Array Slot} (hdg : decode code pc = .ok (.ireturn, 1)) : W p l e room_1 s m #[Value.ref b] below meth c H [] 600000 7302250 (lw_Z below #[Value.ref b] s) (F0 m pc ls [.int 1]) := by
  intro T hT X
  obtain ⟨fs, hret, hrun, hended, hW, hframe⟩ := X.leave (v := some (.int 1)) (hlocks := hlocks) (fun h => by rw [hr] at h; cases h)
  have hmeth' : T.vm.method? m = some meth := X.method'
  refine ⟨T.setFrames fs, ?_, .returned (some (.int 1)), hrun, hended, rfl, ⟨_, rfl⟩, hW, hframe⟩
  jvm_step X.here [X.here.top, hx, hb, hdg, hmeth', hr, ret, narrow_b1]
  (try refine ⟨rfl, ?_⟩); (try refine ⟨rfl, ?_⟩)
  first | (intro acts; rw [hret _ acts rfl rfl rfl]) | rw [hret _ _ rfl rfl rfl]
  exact Steps.refl _
/-- what holds at the law's entry: the machine, the code, the tables' words (any of lw_tbl by 'hts w (by decide +kernel)'), the script of L ints xs at the cell b, what the Statement gives of the start (any of its parts by flat_of_before) -/
def lw_At (p : Program) (s : State) (m : MethodId) (meth : Method) (c : Code) (b L : Nat) (xs : Nat → Int32) : Prop :=
  p.tables.exec = Jvm.exec ∧ c.code = code ∧ meth.sig.returnType = ret ∧ c.maxLocals = 4 ∧ s.vm.findClass R_law = some m.cls ∧ (∀ w ∈ lw_tbl, w.before #[Value.ref b] s = true) ∧ va_X b L xs s s.heap ∧ b < s.heap.size ∧ meth.locks = false ∧ (Jvm.Cond.and given_1 narrow_1).before #[Value.ref b] s = true ∧ meth.name = x.name
/-- the memory of what is only read -/
def memS (xs : Nat → Int32) : zMem := fun x => if x < 4010 then nI ([0, 1, 2, 3, 4, 5].getD (x - 4000) 0) else if x < 4020 then nI (zNK.getD (x - 4010) 0) else if x < 4030 then nI (zSB.getD (x - 4020) 0) else if x < 5000 then nI (zMBo.getD (x - 4030) 0) else xs (x - 5000)
theorem memS0 {xs : Nat → Int32} {i : Nat} (h : i < 6) : memS xs (4000 + i) = nI ([0, 1, 2, 3, 4, 5].getD i 0) := by
  unfold memS
  rw [if_pos (by omega), show 4000 + i - 4000 = i by omega]
theorem memS1 {xs : Nat → Int32} {i : Nat} (h : i < 6) : memS xs (4010 + i) = nI (zNK.getD i 0) := by
  unfold memS
  rw [if_neg (by omega), if_pos (by omega), show 4010 + i - 4010 = i by omega]
theorem memS2 {xs : Nat → Int32} {i : Nat} (h : i < 6) : memS xs (4020 + i) = nI (zSB.getD i 0) := by
  unfold memS
  rw [if_neg (by omega), if_neg (by omega), if_pos (by omega), show 4020 + i - 4020 = i by omega]
theorem memS3 {xs : Nat → Int32} {i : Nat} (h : i < 6) : memS xs (4030 + i) = nI (zMBo.getD i 0) := by
  unfold memS
  rw [if_neg (by omega), if_neg (by omega), if_neg (by omega), if_pos (by omega), show 4030 + i - 4030 = i by omega]
theorem memS4 {xs : Nat → Int32} {i : Nat} : memS xs (5000 + i) = xs i := by
  unfold memS
  rw [if_neg (by omega), if_neg (by omega), if_neg (by omega), if_neg (by omega), show 5000 + i - 5000 = i by omega]
theorem memS_st (xs : Nat → Int32) : zSt (memS xs) := ⟨fun i hi => by
  rw [memS0 hi]
  rcases (show i = 0 ∨ i = 1 ∨ i = 2 ∨ i = 3 ∨ i = 4 ∨ i = 5 by omega) with rfl | rfl | rfl | rfl | rfl | rfl <;> rfl, fun i hi => memS1 hi, fun i hi => memS2 hi, fun i hi => memS3 hi⟩
theorem kd13a : ∀ q ∈ zZ, q.2.1 = 13 → q.1 = 4000 ∨ q.1 = 4010 ∨ q.1 = 4020 ∨ q.1 = 4030 ∨ q.1 = 5000 := by decide +kernel
theorem kd13 {o : Nat} (h : kd o = 13) : o = 4000 ∨ o = 4010 ∨ o = 4020 ∨ o = 4030 ∨ o = 5000 := by
  by_cases ho : o < 10000
  · rcases kd_lt ho with h9 | ⟨k, n, hz, hk, hm⟩
    · omega
    · exact kd13a _ hm (hk.symm.trans h)
  · rcases kd_ge (show 10000 ≤ o by omega) with ⟨h1, -⟩ | ⟨h1, -⟩ | h1 <;> omega
theorem zT_cg {ty : FieldType} {t N : Nat} {f g : Nat → Value} {A : Nat → Prop} {U : State} {H : Heap} (h : va_T ty t N f A U H) (hg : ∀ j, j < N → g j = f j) : va_T ty t N g A U H := by
  obtain ⟨cell, a1, a2, a3, a4, a5, a6, a7⟩ := h
  exact ⟨cell, a1, a2, a3, a4, a5, fun j hj => by rw [a6 j hj, hg j hj], a7⟩
theorem lw_aoH : Cond.arrayOver (.object "DishLift$House") ∈ lw_tbl := by decide +kernel
theorem lw_aoI : Cond.arrayOver (.array .int) ∈ lw_tbl := by decide +kernel
def lw_flds : List (String × String) := [("DishLift$House", "BY_NUMBER"), ("DishLift$Asks", "NEXT_KIND"), ("DishLift$Asks", "SIZE_BODIES"), ("DishLift$Asks", "MARK_BODIES")]
theorem lw_lays : ∀ q ∈ lw_flds, Cond.laysStatic q.1 q.2 "[I" ∈ lw_tbl ∧ Cond.initialized q.1 ∈ lw_tbl := by decide +kernel
/-- one of the four arrays -/
theorem lw_arr {b : Nat} {s : State} {A : Nat → Prop} {C n : String} {l : List Nat} (harr : (Cond.arrayOf (.static C n "[I") .int).before #[Value.ref b] s = true) (hlen : (Cond.eq (.length (.static C n "[I")) (.int (Int32.ofNat 6))).before #[Value.ref b] s = true)
    (hel : ∀ j, j < 6 → (Cond.eq (.elem (.static C n "[I") (.int (Int32.ofNat j))) (.int (nI (l.getD j 0)))).before #[Value.ref b] s = true) (hl : (Cond.laysStatic C n "[I").before #[Value.ref b] s = true) (hi : (Cond.initialized C).before #[Value.ref b] s = true) (hA : ∀ a : Nat, a < s.heap.size → ¬ A a) :
    ∃ t : Nat, va_Z C n "[I" (.ref t) A s s.heap ∧ va_T .int t 6 (fun i => .int (nI (l.getD i 0))) A s s.heap := by
  obtain ⟨t, e, T⟩ := va_Tof (tm := .static C n "[I") (ty := .int) (N := 6) (f := fun i => .int (nI (l.getD i 0))) (A := A) (by decide) harr (va_eqt hlen) (fun j hj => va_eqt (hel j hj)) hA
  exact ⟨t, va_Zof hl hi e hA, T⟩
theorem lw_six {P : Nat → Prop} (h0 : P 0) (h1 : P 1) (h2 : P 2) (h3 : P 3) (h4 : P 4) (h5 : P 5) : ∀ j, j < 6 → P j := fun j hj => by
  rcases (show j = 0 ∨ j = 1 ∨ j = 2 ∨ j = 3 ∨ j = 4 ∨ j = 5 by omega) with rfl | rfl | rfl | rfl | rfl | rfl <;> assumption
theorem lw_D {s : State} {b : Nat} (hgd : ∀ w ∈ zgd, w.before #[Value.ref b] s = true) : ∃ D : va_G, va_K D vwCl [] s := by
  have h : ∀ c : Nat, ∃ d : ClassId × (Nat → Nat), ∀ q : vw_C, vwCl[c]? = some q → u_Kn s q.1 q.2.1 q.2.2 d.1 d.2 := fun c => by
    cases hc : vwCl[c]? with
    | none => exact ⟨(0, fun _ => 0), fun q hq => by cases hq⟩
    | some q =>
      obtain ⟨cC, iS, h1⟩ := u_known (C := q.1) (T := q.2.1) (N := q.2.2) hgd (zuw hc) (hgd _ (znewW hc).1)
      exact ⟨(cC, iS), fun q' hq' => by cases hq'; exact h1⟩
  exact ⟨(fun c => (Classical.choose (h c)).1, fun c => (Classical.choose (h c)).2), fun c q hq => Classical.choose_spec (h c) q hq, fun k q hq => by cases hq⟩
theorem whole_start {p : Program} {e : Env} {s : State} {m : MethodId} {below : List Frame} {meth : Method} {c : Code} (l : Launch) (hflags : l.flags = flags0) {b L : Nat} {xs : Nat → Int32} (hL : L ≤ 3072) (C0 : lw_At p s m meth c b L xs) : W p l e room_1 s m #[Value.ref b] below meth c s.heap [] 0 0 (lw_Z below #[Value.ref b] s) (entryFrame m ([Value.ref b] : List Value).toArray 4) := by
  obtain ⟨hx, hb, hr, hml, hown, hts, hX, hbl, hlocks, hgv, hname⟩ := C0
  have hgd : ∀ w ∈ zgd, w.before #[Value.ref b] s = true := fun w hw => hts w (List.mem_filter.mp hw).1
  have hnw : ∀ w ∈ znw, va_Nw w s := fun w hw => by
    have hn := (List.mem_filter.mp hw).2
    have h1 := hts w (List.mem_filter.mp hw).1
    cases w <;> first | (cases hn; done) | exact va_Nw.of rfl h1
  have hs := flat_of_before _ hgv
  generalize hA : (fun q : Nat => s.heap.size ≤ q) = A
  have hA0 : ∀ a : Nat, a < s.heap.size → ¬ A a := fun a h q => by
    rw [← hA] at q
    exact absurd h (Nat.not_lt.mpr q)
  obtain ⟨t0, z0, T0⟩ := lw_arr (b := b) (s := s) (A := A) (C := "DishLift$House") (n := "BY_NUMBER") (l := [0, 1, 2, 3, 4, 5]) (hs _ (by decide +kernel)) (hs _ (by decide +kernel)) (lw_six (hs _ (by decide +kernel)) (hs _ (by decide +kernel)) (hs _ (by decide +kernel)) (hs _ (by decide +kernel)) (hs _ (by decide +kernel)) (hs _ (by decide +kernel))) (hts _ (lw_lays ("DishLift$House", "BY_NUMBER") (by decide)).1) (hts _ (lw_lays ("DishLift$House", "BY_NUMBER") (by decide)).2) hA0
  obtain ⟨t1, z1, T1⟩ := lw_arr (b := b) (s := s) (A := A) (C := "DishLift$Asks") (n := "NEXT_KIND") (l := zNK) (hs _ (by decide +kernel)) (hs _ (by decide +kernel)) (lw_six (hs _ (by decide +kernel)) (hs _ (by decide +kernel)) (hs _ (by decide +kernel)) (hs _ (by decide +kernel)) (hs _ (by decide +kernel)) (hs _ (by decide +kernel))) (hts _ (lw_lays ("DishLift$Asks", "NEXT_KIND") (by decide)).1) (hts _ (lw_lays ("DishLift$Asks", "NEXT_KIND") (by decide)).2) hA0
  obtain ⟨t2, z2, T2⟩ := lw_arr (b := b) (s := s) (A := A) (C := "DishLift$Asks") (n := "SIZE_BODIES") (l := zSB) (hs _ (by decide +kernel)) (hs _ (by decide +kernel)) (lw_six (hs _ (by decide +kernel)) (hs _ (by decide +kernel)) (hs _ (by decide +kernel)) (hs _ (by decide +kernel)) (hs _ (by decide +kernel)) (hs _ (by decide +kernel))) (hts _ (lw_lays ("DishLift$Asks", "SIZE_BODIES") (by decide)).1) (hts _ (lw_lays ("DishLift$Asks", "SIZE_BODIES") (by decide)).2) hA0
  obtain ⟨t3, z3, T3⟩ := lw_arr (b := b) (s := s) (A := A) (C := "DishLift$Asks") (n := "MARK_BODIES") (l := zMBo) (hs _ (by decide +kernel)) (hs _ (by decide +kernel)) (lw_six (hs _ (by decide +kernel)) (hs _ (by decide +kernel)) (hs _ (by decide +kernel)) (hs _ (by decide +kernel)) (hs _ (by decide +kernel)) (hs _ (by decide +kernel))) (hts _ (lw_lays ("DishLift$Asks", "MARK_BODIES") (by decide)).1) (hts _ (lw_lays ("DishLift$Asks", "MARK_BODIES") (by decide)).2) hA0
  obtain ⟨D, hK⟩ := lw_D hgd
  obtain ⟨lkf, Lf, hl, G⟩ := law_start (X := L) (d := 800) (xs := xs) hL (by omega)
  have G1 := G (memS xs) (fun r _ => r = some (.int (nI 1))) (memS_st xs) (fun i _ => memS4) (fun _ => rfl)
  have hC : zCx 800 225 p room_1 s m #[Value.ref b] meth c := ⟨by omega, hx, hb, hr, hml, hown, hlocks, hname, hgd, hnw, ⟨va_AO.of (hts _ lw_aoH), hts _ lw_aoI⟩, by decide, by decide⟩
  let φ : Nat → Nat := va_up (va_up (va_up (va_up (va_up (fun _ => 0) 4000 t0) 4010 t1) 4020 t2) 4030 t3) 5000 b
  have f0 : φ 4000 = t0 := rfl
  have f1 : φ 4010 = t1 := rfl
  have f2 : φ 4020 = t2 := rfl
  have f3 : φ 4030 = t3 := rfl
  have f5 : φ 5000 = b := rfl
  have hXt : zXt L A φ (memS xs) s s.heap := by
    refine ⟨fun o ho => ?_, fun q hq => ?_⟩
    · rcases kd13 ho with rfl | rfl | rfl | rfl | rfl
      · rw [f0]; exact zT_cg T0 (fun j hj => by rw [memS0 hj])
      · rw [f1]; exact zT_cg T1 (fun j hj => by rw [memS1 hj])
      · rw [f2]; exact zT_cg T2 (fun j hj => by rw [memS2 hj])
      · rw [f3]; exact zT_cg T3 (fun j hj => by rw [memS3 hj])
      · obtain ⟨scr, q1, q2, q3, q4, q5⟩ := hX
        rw [f5]
        exact ⟨scr, q1, q2, q3, by rw [q4]; exact Nat.le_refl _, by rw [q4]; rfl, fun j hj => (q5 j hj).trans (by show some (Value.int (xs j)) = some (Value.int (memS xs (5000 + j))); rw [memS4]), hA0 b hbl⟩
    · unfold zst4 at hq
      simp only [List.mem_cons, List.not_mem_nil, or_false] at hq
      rcases hq with rfl | rfl | rfl | rfl
      · exact z0
      · exact z1
      · exact z2
      · exact z3
  have hS : zSm L A D (fun _ => 0) φ (memS xs) (fun _ => none) [] s s.heap :=
    ⟨fun k q h => (by cases h), ⟨fun i j p q h => (by cases h), fun k q h => (by cases h)⟩, hK, fun o h => (by cases h), fun o h => (by cases h), fun o h => (by cases h)⟩
  have hLs := zLs_entry φ [.ref 5000] (n := 4) (by decide)
  rw [lg_entry_eq]
  refine G1 p l e room_1 s m #[Value.ref b] below meth c s.heap [] 0 0 A D (fun _ => 0) φ _ _ hL hC hLs hS hXt va_S.rf (fun q h => by rw [← hA]; exact h) (fun v hv => ?_) (fun v hv => by cases hv) (Nat.zero_le _) ?_ ?_ ?_
  · simp only [List.mem_cons, List.not_mem_nil, or_false] at hv
    rcases hv with rfl | rfl | rfl | rfl
    · exact Or.inr rfl
    · trivial
    · trivial
    · trivial
  · show 0 + (Lf.length - 0) ≤ 600000
    omega
  · show 0 + 1300 * (Lf.length - 0) ≤ 7302250
    omega
  · intro r mem' H' locs' cells' slots' κ' φ' pc' la' hQ hS' hX' hV' hc hs' hag hsub hrin hret
    subst hQ
    refine W.widen hc hs' ?_
    intro T hT X
    exact lw_ret hx hb hr hlocks hret.1 T hT (Stand.dropFresh (locs := []) (J := locs') X (fun y hy => by have := hV'.2.2 y hy; rw [← hA] at this; exact this))
set_option maxHeartbeats 4000000 in
theorem lw_walk (l : Launch) (hflags : l.flags = flags0) (b : Addr) (xs : List Int32) : MetFree l x (headSpec (Jvm.Cond.code x code maxLocals ret :: tables_1) room_1) (lw_P b xs) (fun _ _ _ _ _ => True) lw_Q := by
  refine MetFree.of_bodyS (code := code) (maxLocals := maxLocals) (ret := ret) (by decide) ?_ ?_
  · intro args s m h hn
    obtain ⟨meth, c, h1, h2, h3, h4, h5, h6, -, -⟩ := Cond.code_spec hn (atoms_spec (ws := Jvm.Cond.code x code maxLocals ret :: tables_1) h _ List.mem_cons_self)
    exact ⟨meth, c, h1, h2, h3, h4, h5, h6⟩
  · intro p e s m args below meth c s₁ B hml0 hP _
    obtain ⟨rfl, hx, hbd, hgv⟩ := hP
    obtain ⟨scr, harrAt, hlist, hof, hsmall⟩ := hx
    obtain ⟨hcb, hkn, -, -⟩ := State.arrayAt?_spec harrAt
    have hown : s.vm.findClass R_law = some m.cls := findClass_of_methodNamed B.named
    have hts0 : ∀ c ∈ (Jvm.Cond.code x code maxLocals ret :: tables_1), c.before #[Value.ref b] s = true := atoms_spec (ws := Jvm.Cond.code x code maxLocals ret :: tables_1) B.pre
    have hts : ∀ w ∈ lw_tbl, w.before #[Value.ref b] s = true := k2_hts_sels lw_privs (fun w hw => hts0 w (List.mem_cons_of_mem _ hw)) lw_privs_ok
    have hml : c.maxLocals = 4 := B.maxLocals_eq (hts0 _ List.mem_cons_self)
    have X₀ : Stand p l e room_1 s m #[Value.ref b] below meth c s₁ [] 0 0 := Stand.of_body B
    have hh0 : s₁.heap = s.heap := by rw [B.state]; rfl
    have hsz : scr.slots.size = xs.length := by rw [← Array.length_toList, hlist, List.length_map]
    have hval : ∀ j : Nat, j < xs.length → scr.slots[j]? = some (.int (xs.getD j 0)) := fun j hj => by
      rw [← Array.getElem?_toList, hlist]
      simp [hj]
    have hbl : b < s.heap.size := (Array.getElem?_eq_some_iff.mp hcb).1
    have hX : va_X b xs.length (fun j => xs.getD j 0) s s.heap := ⟨scr, hcb, hof, hkn, hsz, hval⟩
    have K : W p l e room_1 s m #[Value.ref b] below meth c s₁.heap [] 0 0 (lw_Z below #[Value.ref b] s) (entryFrame m ([Value.ref b] : List Value).toArray 4) := by
      rw [hh0]
      exact whole_start l hflags hbd ⟨B.exec, B.bytes, B.returns, hml, hown, hts, hX, hbl, B.notSynchronized, hgv, (name_of_methodNamed B.named B.method).1⟩
    obtain ⟨t, a1, o, b1, b2, b3⟩ := K s₁ rfl X₀
    exact ⟨t, o, a1, b1, b2, b3⟩
theorem lw_pre_spec {args : Array Value} {s : State} (h : (Jvm.Cond.and given_1 narrow_1).before args s = true) (hr : rest_1_c.before args s = true) : ∃ (b : Addr) (xs : List Int32), lw_P b xs args s := by
  have hs := flat_of_before _ h
  have hq := flat_of_before _ hr
  have hc : (Cond.count 1).before args s = true := hs _ (by decide +kernel)
  have harr : (Cond.arrayOf (.arg 0) .int).before args s = true := hs _ (by decide +kernel)
  have hle : (Cond.le (.length (.arg 0)) (.int 3072)).before args s = true := hs _ (by decide +kernel)
  have hlen : (Cond.isInt (.length (.arg 0))).before args s = true := hq _ (by decide +kernel)
  have hall : (Cond.all (.arg 0) (.isInt (.elem (.arg 0) (.index 0)))).before args s = true := hq _ (by decide +kernel)
  obtain ⟨b, xs, hb, hx⟩ := State.ints_of_pre rfl harr hlen hall
  have hsm : xs.length < 2 ^ 31 := hx.choose_spec.2.2.2
  have hev : (Term.length (.arg 0)).eval args s none [] s = some (.int xs.length.toInt32) := hx.length_eval hb
  have hv := Cond.le_ints hev (show (Term.int 3072).eval args s none [] s = some (.int 3072) from rfl)
  have hd : xs.length.toInt32 ≤ 3072 := by
    simpa [Cond.before, Cond.holds, hv] using hle
  have hN : xs.length ≤ 3072 := (Int32.ofNat_le_ofNat hsm (by decide)).mp (show Int32.ofNat xs.length ≤ Int32.ofNat 3072 from hd)
  exact ⟨b, xs, Cond.one_arg hc (show args[0]? = some (.ref b) from hb), hx, hN, h⟩
theorem lw_comes (l : Launch) (hflags : l.flags = flags0) : Comes l x (Jvm.Cond.code x code maxLocals ret :: tables_1) room_1 (fun tb e args s => Calls_1 tb e args s ∧ rest_1 tb e args s ∧ Pre_1 tb e args s)
    (fun _ _ args s o t => lw_Q args s o t) := by
  intro p e ha hc hk s m args below hf hfit hheap happ hpre
  obtain ⟨b, xs, hP⟩ := lw_pre_spec hpre.2.2 hpre.2.1
  obtain ⟨k, o, h1, h2, h3, hQ⟩ := lw_walk l hflags b xs p e ha hc hk s m args below hf ((Spec.applies_iff_loose hf).mp happ).1 hP trivial
  exact ⟨k, o, h1, h2, h3, hQ⟩
theorem lw_frame {s t : State} {o : Outcome} {args : Array Value} (h : Framed s o t [] 600000 7302250) :
    Framed s o t (fieldLocs frame_1_writes args s ++ arrayLocs frame_1_arrays args s ++ staticLocs frame_1_statics s) 600000 7302250 := h
theorem lw_limb (L : Cond) (hL : ∀ (args : Array Value) (s t : State), L.after args s (.returned (some (.int 1))) t = true) :
    ArmFor flags0 classFile x code maxLocals ret World_1 tables_1 room_1 Calls_1 rest_1 Pre_1
      (fun tb e a s o t => postC L tb e a s o t ∧ Framed s o t (fieldLocs frame_1_writes a s ++ arrayLocs frame_1_arrays a s ++ staticLocs frame_1_statics s) 600000 7302250) := by
  intro l hflags _ _ p e ha hc hk s m args below hf hfit hheap happ hpre
  obtain ⟨k, o, h1, h2, h3, rfl, hF⟩ := lw_comes l hflags p e ha hc hk s m args below hf hfit hheap happ hpre
  exact ⟨k, _, h1, h2, h3, hL args s _, lw_frame hF⟩
theorem i_vc : Claimed_1_1 ∧ Claimed_1_2 := ⟨lw_limb limb_1_1 (fun args s t => by simp [limb_1_1, Cond.after, Cond.holds, Cond.value]), lw_limb limb_1_2 (fun args s t => Cond.after_iff.mpr (by
  first | (rw [show limb_1_2 = Cond.eq .result (.int 1) from rfl, Cond.eq_ints (x := 1) (y := 1) rfl rfl]; simp; done) | (simp [limb_1_2, Cond.value, Term.eval]; done)))⟩
