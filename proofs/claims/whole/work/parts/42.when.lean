/-! when, done -/
def zfirst (v : Int32) : Nat → Nat → zH → Int32
  | 0, _, _ => -(nI 1000000)
  | m + 1, i, g => if nI (zbits g 11 (g 0)) &&& v = v then nI i else zfirst v m (i + 1) (zpass (fun e => e) g)
section WH
variable {X d : Nat} {mem : zMem} {lk : zLk} {L : List Nat} {Q : Option Value → zMem → Prop} {g : zH}
theorem firstServed_loop {v : Int32} {v1 : Value} (hd : 3 < d) (hk : zKs lk) (hh : zHo lk 10128) : ∀ m i g mem, i + m = 61 → zHB mem 10128 g → zWF g → g 6 + m ≤ 999999 → zSt mem → (∀ mem', zfr mem mem' 10128 → Q (some (.int (zfirst v m i g))) mem') → zE X d 15 11 [.ref 710, v1, .int v, .int (nI 60), .int (nI i)] [] mem lk L lk L Q := by
  intro m
  induction m with
  | zero =>
    intro i g mem hi hb wf h6 hS q
    have c1 : nI 60 < nI i := by rw [nLt (by omega) (by omega)]; omega
    refine zE_do 40 11 (tbl := tX2_firstServed) zck_15 rfl (h := ?_)
    exact ⟨fun _ => ⟨rfl, rfl, q mem zfr.rf⟩, fun c => absurd c1 c⟩
  | succ m ih =>
    intro i g mem hi hb wf h6 hS q
    have c1 : ¬ nI 60 < nI i := by rw [nLt (by omega) (by omega)]; omega
    unfold zfirst at q
    refine zE_do 40 11 (tbl := tX2_firstServed) zck_15 rfl (h := ?_)
    refine ⟨fun c => absurd c c1, fun _ => ⟨rfl, _, hk.at 710 10128, by rw [hh.k3]; rfl, ok_served (by omega) hh hb wf.1 wf.at11 ⟨fun c => ⟨rfl, _, hk.at 710 10128, by rw [hh.k3]; rfl, ok_pass (by omega) hh hb wf (by omega) (hS.ord (by omega)) (fun m2 hb2 f2 => ?_)⟩, fun c => ⟨rfl, rfl, ?_⟩⟩⟩⟩
    · have c : ¬ nI (zbits g 11 (g 0)) &&& v = v := c
      rw [if_neg c] at q
      have h61 : zpass (fun e => e) g 6 = g 6 + 1 := zpass_6 wf.1
      have k := ih (i + 1) (zpass (fun e => e) g) m2 (by omega) hb2 (zpass_wf wf (by omega)) (by omega) (hS.fr f2 (Or.inl (by omega))) (fun m3 f3 => q m3 (f2.tr f3))
      rw [show nI (i + 1) = nI i + nI 1 from (nI_add i 1).symm] at k
      exact k
    · have c : nI (zbits g 11 (g 0)) &&& v = v := c
      rw [if_pos c] at q
      exact q mem zfr.rf
theorem ok_firstServed {v : Int32} (hd : 4 < d) (hk : zKs lk) (hh : zHo lk 10128) (ho : zHo lk 10000) (hb : zHB mem 10000 g) (wf : zWF g) (h6 : g 6 ≤ 999) (hS : zSt mem) (q : ∀ mem', zfr mem mem' 10128 → Q (some (.int (zfirst v 61 0 g))) mem') : zOk X d 15 [.ref 710, .ref 10000, .int v, .int (nI 60)] mem lk L lk L Q := by
  refine zOk_do 20 (tbl := tX2_firstServed) zck_15 rfl (by omega) (h := ?_)
  refine ⟨rfl, _, hk.at 710 10128, by rw [hh.k3]; rfl, ok_become (by omega) hh ho (by omega) hb wf.1 (fun m1 hb1 f1 => ?_)⟩
  exact firstServed_loop (by omega) hk hh 61 0 g m1 (by omega) hb1 wf (by omega) (hS.fr f1 (Or.inl (by omega))) (fun m2 f2 => q m2 (f1.tr f2))
theorem ok_when {x : Int32} (hd : 5 < d) (hk : zKs lk) (hh : zHo lk 10128) (ho : zHo lk 10000) (hb : zHB mem 10000 g) (hN : zNow g) (hS : zSt mem)
    (qB : (x.toInt < 0 ∨ (g 0 : Int) ≤ x.toInt) → Q (some (.int (-(nI 1000001)))) mem) (q : ∀ e, e < g 0 → x = nI e → ∀ mem', zfr mem mem' 10128 → Q (some (.int (zfirst (nI 1 <<< (nI e &&& 31)) 61 0 g))) mem') : zOk X d 108 [.ref 100, .int x] mem lk L lk L Q := by
  refine zOk_do 60 (tbl := tX7_when) zck_108 rfl (by omega) (h := ?_)
  refine ⟨rfl, _, hk.at 102 10000, by rw [ho.k3]; rfl, ok_isDish (by omega) ho hb hN.le.1 (fun e he ex => zT_eq ⟨rfl, _, hk.at 106 710, rfl, _, hk.at 102 10000, rfl, ?_⟩) (fun c => zF_eq ⟨rfl, rfl, qB c⟩)⟩
  have wf := hN.wf (by omega)
  have p := q e he ex
  subst ex
  exact ok_firstServed (by omega) hk hh ho hb wf.1 wf.2 hS (fun m1 f1 => ⟨rfl, rfl, p m1 f1⟩)
theorem ok_done (hd : 5 < d) (hk : zKs lk) (hh : zHo lk 10128) (ho : zHo lk 10000) (hb : zHB mem 10000 g) (hN : zNow g) (hS : zSt mem)
    (qS : g 0 = 0 → Q (some (.int (-(nI 1000002)))) mem) (q : 0 < g 0 → ∀ mem', zfr mem mem' 10128 → Q (some (.int (zfirst (nI (2 ^ g 0 - 1)) 61 0 g))) mem') : zOk X d 109 [.ref 100] mem lk L lk L Q := by
  refine zOk_do 60 (tbl := tX7_done) zck_109 rfl (by omega) (h := ?_)
  refine ⟨rfl, _, hk.at 102 10000, by rw [ho.k3]; rfl, ok_stands (by omega) ho hb hN.le.1 (fun h0 => zT_eq ⟨rfl, _, hk.at 106 710, rfl, _, hk.at 102 10000, rfl, _, hk.at 102 10000, by rw [ho.k3]; rfl, ?_⟩) (fun h0 => zF_eq ⟨rfl, rfl, qS h0⟩)⟩
  have wf := hN.wf h0
  exact ok_all (by omega) ho hb wf.1.1 ⟨rfl, ok_firstServed (by omega) hk hh ho hb wf.1 wf.2 hS (fun m1 f1 => ⟨rfl, rfl, q h0 m1 f1⟩)⟩
theorem allServed_loop {v : Int32} (hd : 4 < d) (hw : lk 1000 = some 2000) : ∀ m i g mem, i + m = 61 → zRw mem 43 g → zWF g → g 6 + m ≤ 999999 → (∀ mem', ztfr mem mem' → Q (some (.int (zfirst v m i g))) mem') → zE X d 184 6 [.ref 1000, .int v, .int (nI i)] [] mem lk L lk L Q := by
  intro m
  induction m with
  | zero =>
    intro i g mem hi hr wf h6 q
    have c1 : nI 60 < nI i := by rw [nLt (by omega) (by omega)]; omega
    refine zE_do 40 6 (tbl := tX8_allServed) zck_184 rfl (h := ?_)
    exact ⟨fun _ => ⟨rfl, rfl, q mem ztfr.rf⟩, fun c => absurd c1 c⟩
  | succ m ih =>
    intro i g mem hi hr wf h6 q
    have c1 : ¬ nI 60 < nI i := by rw [nLt (by omega) (by omega)]; omega
    unfold zfirst at q
    refine zE_do 40 6 (tbl := tX8_allServed) zck_184 rfl (h := ?_)
    refine ⟨fun c => absurd c c1, fun _ => ⟨rfl, ok_mservedOf (r := 43) (by omega) hw (by omega) hr.1 wf.1 wf.at11 ⟨fun c => ⟨rfl, ok_mpasses (r := 43) (by omega) hw (by omega) hr.1 wf (by omega) hr.2 (fun m2 hb2 f2 => ?_)⟩, fun c => ⟨rfl, rfl, ?_⟩⟩⟩⟩
    · have c : ¬ nI (zbits g 11 (g 0)) &&& v = v := c
      rw [if_neg c] at q
      have h61 : zpass (fun e => e) g 6 = g 6 + 1 := zpass_6 wf.1
      have h01 : zpass (fun e => e) g 0 = g 0 := zpass_ne wf.1 (by omega) (by omega) (by omega) (by omega)
      have k := ih (i + 1) (zpass (fun e => e) g) m2 (by omega) (hr.to hb2 h01 f2) (zpass_wf wf (by omega)) (by omega) (fun m3 f3 => q m3 (f2.t.tr f3))
      rw [show nI (i + 1) = nI i + nI 1 from (nI_add i 1).symm] at k
      exact k
    · have c : nI (zbits g 11 (g 0)) &&& v = v := c
      rw [if_pos c] at q
      exact q mem ztfr.rf
theorem ok_allServed {v : Int32} (hd : 4 < d) (hw : lk 1000 = some 2000) (hr : zRw mem 0 g) (wf : zWF g) (h6 : g 6 ≤ 999) (q : ∀ mem', ztfr mem mem' → Q (some (.int (zfirst v 61 0 g))) mem') : zOk X d 184 [.ref 1000, .int v] mem lk L lk L Q := by
  refine zOk_do 20 (tbl := tX8_allServed) zck_184 rfl (by omega) (h := ?_)
  refine ⟨rfl, ok_tries (by omega) hw hr wf.1 (fun m1 hr1 f1 => ?_)⟩
  exact allServed_loop hd hw 61 0 g m1 (by omega) hr1 wf (by omega) (fun m2 f2 => q m2 (f1.tr f2))
theorem ok_mwhen {x : Int32} (hd : 5 < d) (hw : lk 1000 = some 2000) (hr : zRw mem 0 g) (hN : zNow g)
    (qB : (x.toInt < 0 ∨ (g 0 : Int) ≤ x.toInt) → Q (some (.int (-(nI 1000001)))) mem) (q : ∀ e, e < g 0 → x = nI e → ∀ mem', ztfr mem mem' → Q (some (.int (zfirst (nI 1 <<< (nI e &&& 31)) 61 0 g))) mem') : zOk X d 185 [.ref 1000, .int x] mem lk L lk L Q := by
  refine zOk_do 60 (tbl := tX8_when) zck_185 rfl (by omega) (h := ?_)
  refine ⟨rfl, ok_misDish (by omega) hw hr.1 hN.le.1 (fun e he ex => zT_eq ⟨rfl, ?_⟩) (fun c => zF_eq ⟨rfl, rfl, qB c⟩)⟩
  have wf := hN.wf (by omega)
  have p := q e he ex
  subst ex
  exact ok_allServed (by omega) hw hr wf.1 wf.2 (fun m1 f1 => ⟨rfl, rfl, p m1 f1⟩)
theorem ok_mdone (hd : 5 < d) (hw : lk 1000 = some 2000) (hr : zRw mem 0 g) (hN : zNow g)
    (qS : g 0 = 0 → Q (some (.int (-(nI 1000002)))) mem) (q : 0 < g 0 → ∀ mem', ztfr mem mem' → Q (some (.int (zfirst (nI (2 ^ g 0 - 1)) 61 0 g))) mem') : zOk X d 186 [.ref 1000] mem lk L lk L Q := by
  have e0 : mem (2000 + (nI 0).toNatClampNeg) = nI (g 0) := hr.1.k 0 (by omega)
  refine zOk_do 60 (tbl := tX8_done) zck_186 rfl (by omega) (h := ?_)
  refine ⟨rfl, ok_misHouse (by omega) hw hr.1 hN.le.1 (fun h0 => zT_eq ⟨rfl, _, hw, Or.inl rfl, zwi0 (by omega), rfl, ?_⟩) (fun h0 => zF_eq ⟨rfl, rfl, qS h0⟩)⟩
  have wf := hN.wf h0
  have w0 := wf.1.1
  rw [e0, zall_t _ (by omega)]
  exact ok_allServed (by omega) hw hr wf.1 wf.2 (fun m1 f1 => ⟨rfl, rfl, q h0 m1 f1⟩)
end WH
