/-! the reference: pull, rope, room, send, minutes -/
theorem zRw.to {mem mem' : zMem} {r : Nat} {g g' : zH} (h : zRw mem r g) (hb : zHB mem' (2000 + r) g') (h0 : g' 0 = g 0) (hf : zfr mem mem' (2000 + r)) : zRw mem' r g' :=
  ⟨hb, by rw [h0]; exact h.2.fr hf⟩
/-- what the acts of the reference leave -/
def zbfr (mem mem' : zMem) : Prop := ∀ x, x ≠ 1001 → ¬ (2000 ≤ x ∧ x < 2043) → ¬ (2215 ≤ x ∧ x < 3247) → mem' x = mem x
theorem zbfr.rf {mem : zMem} : zbfr mem mem := fun _ _ _ _ => rfl
theorem zbfr.tr {m1 m2 m3 : zMem} (h : zbfr m1 m2) (h' : zbfr m2 m3) : zbfr m1 m3 := fun x a b c => (h' x a b c).trans (h x a b c)
theorem zmfr.b {mem mem' : zMem} (h : zmfr mem mem') : zbfr mem mem' := fun x a _ c => h x a c
theorem zfr.b {mem mem' : zMem} (h : zfr mem mem' 2000) : zbfr mem mem' := fun x _ b _ => h x (by omega)
theorem zMActs.fr {mem mem' : zMem} {u : Nat} {gs : Nat → zH} (A : zMActs mem u gs) (hf : zfr mem mem' 2000) : zMActs mem' u gs :=
  ⟨A.1, by rw [hf _ (by omega)]; exact A.2.1, fun k hk => by
    obtain ⟨b1, b2⟩ := A.2.2 k hk
    exact ⟨b1.same b2.1 (fun j hj => hf _ (by omega)), b2⟩⟩
def zMN (mem : zMem) (lk : zLk) (u : Nat) (g : zH) (gs : Nat → zH) : Prop := zML lk ∧ zRw mem 0 g ∧ zMActs mem u gs
section MA
variable {X d : Nat} {mem : zMem} {lk : zLk} {L : List Nat} {Q : Option Value → zMem → Prop} {g : zH} {u : Nat} {gs : Nat → zH}
theorem ok_min {x : Int32} {a b : Nat} (hd : 0 < d) (ha : a < 2147483648) (hb : b < 2147483647) (q1 : (x.toInt < a ∨ b < x.toInt) → Q (some (.int (nI 0))) mem) (q0 : ∀ j, a ≤ j → j ≤ b → x = nI j → Q (some (.int (nI 1))) mem) : zOk X d 132 [.long x.toInt64, .long (lN a), .long (lN b)] mem lk L lk L Q := by
  refine ok_in hd (fun c1 c2 => ?_) (fun c => q1 ?_)
  · rw [il_T, l_T (by omega)] at c1
    rw [il_T, l_T (by omega)] at c2
    rcases zix x (n := b + 1) (by omega) with ⟨j, hj, e⟩ | q
    · have : x.toInt = j := by rw [e]; exact nT (by omega)
      exact q0 j (by omega) (by omega) e
    · omega
  · rw [il_T, l_T (by omega), l_T (by omega)] at c
    exact c
theorem ok_mpull {x : Int32} (hd : 3 < d) (C : zMN mem lk u g gs) (hN : zNow g)
    (qB : (x.toInt < 0 ∨ (g 1 : Int) ≤ x.toInt) → Q (some (.int (-(nI 1000001)))) mem)
    (qS : ∀ e, e < g 1 → x = nI e → g 4 = e → Q (some (.int (-(nI 1000002)))) mem)
    (qG : ∀ e, e < g 1 → x = nI e → g 4 ≠ e → ∀ mem', zMN mem' lk (if u < 24 then u + 1 else 24) (va_up g 4 e) (zpsh g gs) → zbfr mem mem' → Q (some (.int (nI (g 4)))) mem') : zOk X d 173 [.ref 1000, .int x] mem lk L lk L Q := by
  obtain ⟨hk, hr, A⟩ := C
  have e4 : mem (2000 + (nI 4).toNatClampNeg) = nI (g 4) := hr.1.k 4 (by omega)
  refine zOk_do 60 (tbl := tX8_pull) zck_173 rfl (by omega) (h := ?_)
  refine ⟨rfl, ok_misFloor (by omega) hk.1 hr.1 hN.le.2 (fun e he ex => zT_ne ?_) (fun c => zF_ne ⟨rfl, rfl, qB c⟩)⟩
  have hw := hN.wf1 (by omega)
  have w4 := hw.1.2.2.2.2.2.1
  have w1 := hw.1.2.2.1
  subst ex
  refine ⟨rfl, _, hk.1, Or.inl rfl, zwi0 (by omega), fun c => ⟨rfl, ?_⟩, fun c => ⟨rfl, rfl, ?_⟩⟩
  · have c : ¬ mem (2000 + (nI 4).toNatClampNeg) = nI e := c
    rw [e4, nEq (by omega) (by omega)] at c
    refine ok_minds (by omega) hk.1 hr hw.1 A (fun m1 A1 f1 => ⟨rfl, _, hk.1, Or.inl rfl, zwi0 (by omega), rfl, _, hk.1, rfl, zwi0 (by omega), rfl, rfl, ?_⟩)
    have hr1 : zRw m1 0 g := hr.same hw.1.1 (fun j hj => f1 _ (by omega) (by omega))
    have e41 : m1 (2000 + (nI 4).toNatClampNeg) = nI (g 4) := hr1.1.k 4 (by omega)
    have ff : zfr m1 (upd m1 (2000 + (nI 4).toNatClampNeg) (nI e)) 2000 := zfr.up (x := 2000 + 4) (by omega) (by omega)
    show Q (some (.int (m1 (2000 + (nI 4).toNatClampNeg)))) (upd m1 (2000 + (nI 4).toNatClampNeg) (nI e))
    rw [e41]
    exact qG e he rfl c _ ⟨hk, hr1.to (hr1.1.set 4 e (by omega) rfl) (zup_ne (by omega)) ff, A1.fr ff⟩ (f1.b.tr ff.b)
  · have c : mem (2000 + (nI 4).toNatClampNeg) = nI e := c
    rw [e4, nEq (by omega) (by omega)] at c
    exact qS e he rfl c
theorem ok_mrope {x : Int32} (hd : 3 < d) (C : zMN mem lk u g gs) (hN : zNow g)
    (qS : g 0 = 0 → Q (some (.int (-(nI 1000002)))) mem)
    (qB : 0 < g 0 → (x.toInt < 1 ∨ 40 < x.toInt) → Q (some (.int (-(nI 1000001)))) mem)
    (qG : ∀ e, 0 < g 0 → x = nI e → 1 ≤ e ∧ e ≤ 40 → ∀ mem', zMN mem' lk (if u < 24 then u + 1 else 24) (va_up g 3 e) (zpsh g gs) → zbfr mem mem' → Q (some (.int (nI (g 3)))) mem') : zOk X d 174 [.ref 1000, .int x] mem lk L lk L Q := by
  obtain ⟨hk, hr, A⟩ := C
  refine zOk_do 60 (tbl := tX8_rope) zck_174 rfl (by omega) (h := ?_)
  refine ⟨rfl, ok_misHouse (by omega) hk.1 hr.1 hN.le.1 (fun h0 => zT_ne ?_) (fun h0 => zF_ne ⟨rfl, rfl, qS h0⟩)⟩
  have hw := hN.wf h0
  refine ok_min (a := 1) (b := 40) (by omega) (by omega) (by omega) (fun c => zF_ne ⟨rfl, rfl, qB h0 c⟩) (fun e h1 h2 ex => zT_ne ⟨rfl, ?_⟩)
  subst ex
  refine ok_minds (by omega) hk.1 hr hw.1 A (fun m1 A1 f1 => ⟨rfl, _, hk.1, Or.inl rfl, zwi0 (by omega), rfl, _, hk.1, rfl, zwi0 (by omega), rfl, rfl, ?_⟩)
  have hr1 : zRw m1 0 g := hr.same hw.1.1 (fun j hj => f1 _ (by omega) (by omega))
  have e41 : m1 (2000 + (nI 3).toNatClampNeg) = nI (g 3) := hr1.1.k 3 (by omega)
  have ff : zfr m1 (upd m1 (2000 + (nI 3).toNatClampNeg) (nI e)) 2000 := zfr.up (x := 2000 + 3) (by omega) (by omega)
  show Q (some (.int (m1 (2000 + (nI 3).toNatClampNeg)))) (upd m1 (2000 + (nI 3).toNatClampNeg) (nI e))
  rw [e41]
  exact qG e h0 rfl ⟨h1, h2⟩ _ ⟨hk, hr1.to (hr1.1.set 3 e (by omega) rfl) (zup_ne (by omega)) ff, A1.fr ff⟩ (f1.b.tr ff.b)
theorem ok_mroom {x : Int32} (hd : 3 < d) (C : zMN mem lk u g gs) (hN : zNow g)
    (qS : g 0 = 0 → Q (some (.int (-(nI 1000002)))) mem)
    (qB : 0 < g 0 → (x.toInt < 1 ∨ 4 < x.toInt) → Q (some (.int (-(nI 1000001)))) mem)
    (qG : ∀ e, 0 < g 0 → x = nI e → 1 ≤ e ∧ e ≤ 4 → ∀ mem', zMN mem' lk (if u < 24 then u + 1 else 24) (va_up g 2 e) (zpsh g gs) → zbfr mem mem' → Q (some (.int (nI (g 2)))) mem') : zOk X d 175 [.ref 1000, .int x] mem lk L lk L Q := by
  obtain ⟨hk, hr, A⟩ := C
  refine zOk_do 60 (tbl := tX8_room) zck_175 rfl (by omega) (h := ?_)
  refine ⟨rfl, ok_misHouse (by omega) hk.1 hr.1 hN.le.1 (fun h0 => zT_ne ?_) (fun h0 => zF_ne ⟨rfl, rfl, qS h0⟩)⟩
  have hw := hN.wf h0
  refine ok_min (a := 1) (b := 4) (by omega) (by omega) (by omega) (fun c => zF_ne ⟨rfl, rfl, qB h0 c⟩) (fun e h1 h2 ex => zT_ne ⟨rfl, ?_⟩)
  subst ex
  refine ok_minds (by omega) hk.1 hr hw.1 A (fun m1 A1 f1 => ⟨rfl, _, hk.1, Or.inl rfl, zwi0 (by omega), rfl, _, hk.1, rfl, zwi0 (by omega), rfl, rfl, ?_⟩)
  have hr1 : zRw m1 0 g := hr.same hw.1.1 (fun j hj => f1 _ (by omega) (by omega))
  have e41 : m1 (2000 + (nI 2).toNatClampNeg) = nI (g 2) := hr1.1.k 2 (by omega)
  have ff : zfr m1 (upd m1 (2000 + (nI 2).toNatClampNeg) (nI e)) 2000 := zfr.up (x := 2000 + 2) (by omega) (by omega)
  show Q (some (.int (m1 (2000 + (nI 2).toNatClampNeg)))) (upd m1 (2000 + (nI 2).toNatClampNeg) (nI e))
  rw [e41]
  exact qG e h0 rfl ⟨h1, h2⟩ _ ⟨hk, hr1.to (hr1.1.set 2 e (by omega) rfl) (zup_ne (by omega)) ff, A1.fr ff⟩ (f1.b.tr ff.b)
theorem minutes_mloop {n : Nat} (hn : n ≤ 24) (hd : 4 < d) : ∀ m i u g gs mem, i + m = n → zMN mem lk u g gs → zWF g → g 6 + m ≤ 999999 →
    (∀ mem', zMN mem' lk (mnU m u) (mnG m g) (mnS m g gs) → zbfr mem mem' → Q (some (.int (nI (zbits (mnG m g) 11 (g 0))))) mem') → zE X d 172 45 [.ref 1000, .int (nI n), .int (nI i)] [] mem lk L lk L Q := by
  intro m
  induction m with
  | zero =>
    intro i u g gs mem hi C wf h6 q
    have c1 : nI n ≤ nI i := by rw [nLe (by omega) (by omega)]; omega
    obtain ⟨hk, hr, A⟩ := C
    refine zE_do 40 45 (tbl := tX8_minutes) zck_172 rfl (h := ?_)
    refine ⟨fun _ => ⟨rfl, ok_mservedOf (r := 0) (by omega) hk.1 (by omega) hr.1 wf.1 wf.at11 ⟨rfl, rfl, q mem ⟨hk, hr, A⟩ zbfr.rf⟩⟩, fun c => absurd c1 c⟩
  | succ m ih =>
    intro i u g gs mem hi C wf h6 q
    have c1 : ¬ nI n ≤ nI i := by rw [nLe (by omega) (by omega)]; omega
    obtain ⟨hk, hr, A⟩ := C
    refine zE_do 40 45 (tbl := tX8_minutes) zck_172 rfl (h := ?_)
    refine ⟨fun c => absurd c c1, fun _ => ⟨rfl, ok_minds (by omega) hk.1 hr wf A (fun m1 A1 f1 => ⟨rfl, ?_⟩)⟩⟩
    have hr1 : zRw m1 0 g := hr.same wf.1 (fun j hj => f1 _ (by omega) (by omega))
    refine ok_mpasses (r := 0) (by omega) hk.1 (by omega) hr1.1 wf (by omega) hr1.2 (fun m2 hb2 f2 => ?_)
    have h61 : zpass (fun e => e) g 6 = g 6 + 1 := zpass_6 wf.1
    have h01 : zpass (fun e => e) g 0 = g 0 := zpass_ne wf.1 (by omega) (by omega) (by omega) (by omega)
    have k := ih (i + 1) (if u < 24 then u + 1 else 24) (zpass (fun e => e) g) (zpsh g gs) m2 (by omega) ⟨hk, hr1.to hb2 h01 f2, A1.fr f2⟩ (zpass_wf wf (by omega)) (by omega) (fun m3 C3 f3 => by rw [h01]; exact q m3 C3 ((f1.b.tr (zfr.b f2)).tr f3))
    rw [← nI_1] at k
    exact k
theorem ok_mminutes {x : Int32} (hd : 4 < d) (C : zMN mem lk u g gs) (hN : zNow g)
    (qS : g 0 = 0 → Q (some (.int (-(nI 1000002)))) mem)
    (qB : 0 < g 0 → (x.toInt < 1 ∨ 24 < x.toInt) → Q (some (.int (-(nI 1000001)))) mem)
    (qF : ∀ n, 0 < g 0 → x = nI n → 1 ≤ n ∧ n ≤ 24 → 999 < g 6 + n → Q (some (.int (-(nI 1000003)))) mem)
    (qG : ∀ n, 0 < g 0 → x = nI n → 1 ≤ n ∧ n ≤ 24 → g 6 + n ≤ 999 → ∀ mem', zMN mem' lk (mnU n u) (mnG n g) (mnS n g gs) → zbfr mem mem' → Q (some (.int (nI (zbits (mnG n g) 11 (g 0))))) mem') : zOk X d 172 [.ref 1000, .int x] mem lk L lk L Q := by
  have C' := C
  obtain ⟨hk, hr, A⟩ := C
  have e6 : mem (2000 + (nI 6).toNatClampNeg) = nI (g 6) := hr.1.k 6 (by omega)
  refine zOk_do 60 (tbl := tX8_minutes) zck_172 rfl (by omega) (h := ?_)
  refine ⟨rfl, ok_misHouse (by omega) hk.1 hr.1 hN.le.1 (fun h0 => zT_ne ?_) (fun h0 => zF_ne ⟨rfl, rfl, qS h0⟩)⟩
  have hw := hN.wf h0
  refine ok_min (a := 1) (b := 24) (by omega) (by omega) (by omega) (fun c => zF_ne ⟨rfl, rfl, qB h0 c⟩) (fun n h1 h2 ex => zT_ne ⟨rfl, _, hk.1, Or.inl rfl, zwi0 (by omega), fun c3 => ?_, fun c3 => ⟨rfl, rfl, ?_⟩⟩)
  · have c4 : mem (2000 + (nI 6).toNatClampNeg) + x ≤ nI 999 := c3
    rw [e6, ex, nI_add, nLe (by omega) (by omega)] at c4
    have q4 := qG n h0 ex ⟨h1, h2⟩ c4
    subst ex
    exact minutes_mloop (by omega) hd n 0 u g gs mem (by omega) C' hw.1 (by omega) q4
  · have c3 : ¬ mem (2000 + (nI 6).toNatClampNeg) + x ≤ nI 999 := c3
    rw [e6, ex, nI_add, nLe (by omega) (by omega)] at c3
    exact qF n h0 ex ⟨h1, h2⟩ (by omega)
theorem ok_msendsBack {r e t ht : Nat} (hd : 0 < d) (hw : lk 1000 = some 2000) (hr : r + 43 ≤ 1247) (hb : zHB mem (2000 + r) g) (wf : zWF g) (he : e < g 0) (q : ∀ mem', zHB mem' (2000 + r) (zsend g e t ht) → zfr mem mem' (2000 + r) → Q none mem') : zOk X d 176 [.ref 1000, .int (nI r), .int (nI e), .int (nI t), .int (nI ht)] mem lk L lk L Q := by
  have h6 := wf.1
  have e1 := hb.rt hr h6 he
  have a1 : 2000 + (nI r + nI 13 + nI e).toNatClampNeg = 2000 + r + (13 + e) := by rw [zw2 (by omega)]; omega
  have a2 : 2000 + (nI r + nI 19 + nI e).toNatClampNeg = 2000 + r + (19 + e) := by rw [zw2 (by omega)]; omega
  have a3 : 2000 + (nI r + nI 31 + nI e).toNatClampNeg = 2000 + r + (31 + e) := by rw [zw2 (by omega)]; omega
  refine zOk_do 60 (tbl := tX8_sendsBack) zck_176 rfl (by omega) (h := ?_)
  refine ⟨rfl, _, hw, rfl, _, hw, Or.inl rfl, zwi2 (by omega), rfl, zwi2 (by omega), rfl, _, hw, rfl, zwi2 (by omega), rfl, _, hw, rfl, zwi2 (by omega), rfl, rfl, ?_⟩
  show Q none (upd (upd (upd mem (2000 + (nI r + nI 13 + nI e).toNatClampNeg) (mem (2000 + (nI r + nI 19 + nI e).toNatClampNeg))) (2000 + (nI r + nI 19 + nI e).toNatClampNeg) (nI t)) (2000 + (nI r + nI 31 + nI e).toNatClampNeg) (nI ht))
  rw [e1]
  exact q _ (((hb.set (13 + e) _ (by omega) a1).set (19 + e) t (by omega) a2).set (31 + e) ht (by omega) a3) (((zfr.up (by omega) (by omega)).tr (zfr.up (by omega) (by omega))).tr (zfr.up (by omega) (by omega)))
theorem ok_msend {x y z : Int32} (hd : 3 < d) (C : zMN mem lk u g gs) (hN : zNow g)
    (qB : zBadSend g x y z → Q (some (.int (-(nI 1000001)))) mem)
    (qS : ∀ e t h, e < g 0 → t < g 1 → h ≤ 60 → x = nI e → y = nI t → z = nI h → (g (13 + e) ≠ 11 ∨ g (19 + e) = t) → Q (some (.int (-(nI 1000002)))) mem)
    (qG : ∀ e t h, e < g 0 → t < g 1 → h ≤ 60 → x = nI e → y = nI t → z = nI h → g (13 + e) = 11 → g (19 + e) ≠ t → ∀ mem', zMN mem' lk (if u < 24 then u + 1 else 24) (zsend g e t h) (zpsh g gs) → zbfr mem mem' → Q (some (.int (nI (zbits (zsend g e t h) 11 (g 0))))) mem') : zOk X d 177 [.ref 1000, .int x, .int y, .int z] mem lk L lk L Q := by
  obtain ⟨hk, hr, A⟩ := C
  refine zOk_do 80 (tbl := tX8_send) zck_177 rfl (by omega) (h := ?_)
  refine ⟨rfl, ok_misDish (by omega) hk.1 hr.1 hN.le.1 (fun e he ex => zT_eq ⟨rfl, ?_⟩) (fun c => zF_eq ⟨rfl, rfl, qB (Or.inl c)⟩)⟩
  have hw := hN.wf (by omega)
  have w0 := hw.1.1
  have w1 := hw.1.2.2.1
  have w11 := hw.1.at11 e he
  obtain ⟨-, -, wt, -, -⟩ := hw.1.2.2.2.2.2.2.2.2 e he
  refine ok_misFloor (by omega) hk.1 hr.1 hN.le.2 (fun t ht ey => zT_eq ?_) (fun c => zF_eq ⟨rfl, rfl, qB (Or.inr (Or.inl c))⟩)
  refine ok_min (a := 0) (b := 60) (by omega) (by omega) (by omega) (fun c => zF_ne ⟨rfl, rfl, qB (Or.inr (Or.inr (by omega)))⟩) (fun h h1 h2 ez => zT_ne ?_)
  subst ex ey ez
  have ea : mem (2000 + (nI 13 + nI e).toNatClampNeg) = nI (g (13 + e)) := by rw [zw1 (by omega), show 2000 + (13 + e) = 2000 + 0 + 13 + e by omega]; exact hr.1.at he
  have eb : mem (2000 + (nI 19 + nI e).toNatClampNeg) = nI (g (19 + e)) := by rw [zw1 (by omega), show 2000 + (19 + e) = 2000 + 0 + 19 + e by omega]; exact hr.1.to he
  refine ⟨rfl, _, hk.1, Or.inl rfl, zwi1 (by omega), fun c3 => ⟨rfl, rfl, ?_⟩, fun c3 => ⟨rfl, _, hk.1, Or.inl rfl, zwi1 (by omega), fun c4 => ⟨rfl, ?_⟩, fun c4 => ⟨rfl, rfl, ?_⟩⟩⟩
  · have c3 : ¬ mem (2000 + (nI 13 + nI e).toNatClampNeg) = nI 11 := c3
    rw [ea, nEq (by omega) (by omega)] at c3
    exact qS e t h he ht h2 rfl rfl rfl (Or.inl c3)
  · have c3 : mem (2000 + (nI 13 + nI e).toNatClampNeg) = nI 11 := c3
    have c4 : ¬ mem (2000 + (nI 19 + nI e).toNatClampNeg) = nI t := c4
    rw [ea, nEq (by omega) (by omega)] at c3
    rw [eb, nEq (by omega) (by omega)] at c4
    refine ok_minds (by omega) hk.1 hr hw.1 A (fun m1 A1 f1 => ⟨rfl, ?_⟩)
    have hr1 : zRw m1 0 g := hr.same hw.1.1 (fun j hj => f1 _ (by omega) (by omega))
    have ws := zsend_wf hw.1 he ht h2
    have s0 : zsend g e t h 0 = g 0 := zsend_ne (by omega) (by omega) (by omega)
    refine ok_msendsBack (r := 0) (by omega) hk.1 (by omega) hr1.1 hw.1 he (fun m2 hb2 f2 => ⟨rfl, ok_mservedOf (r := 0) (by omega) hk.1 (by omega) hb2 (by omega) ws.at11 ⟨rfl, rfl, ?_⟩⟩)
    rw [s0]
    exact qG e t h he ht h2 rfl rfl rfl c3 c4 _ ⟨hk, hr1.to hb2 s0 f2, A1.fr f2⟩ (f1.b.tr (zfr.b f2))
  · have c4 : mem (2000 + (nI 19 + nI e).toNatClampNeg) = nI t := c4
    rw [eb, nEq (by omega) (by omega)] at c4
    exact qS e t h he ht h2 rfl rfl rfl (Or.inr c4)
end MA
