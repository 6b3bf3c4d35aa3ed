/-! the reference: tries, goesOn, ahead, later, fine -/
section MF
variable {X d : Nat} {mem : zMem} {lk : zLk} {L : List Nat} {Q : Option Value → zMem → Prop} {g : zH}
theorem ok_tries (hd : 1 < d) (hw : lk 1000 = some 2000) (hr : zRw mem 0 g) (h6 : g 0 ≤ 6) (q : ∀ mem', zRw mem' 43 g → ztfr mem mem' → Q none mem') : zOk X d 180 [.ref 1000] mem lk L lk L Q := by
  refine zOk_do 20 (tbl := tX8_tries) zck_180 rfl (by omega) (h := ?_)
  exact ⟨rfl, ok_copyOf (a := 0) (b := 43) (by omega) (by omega) (by omega) (by omega) hw (fun m1 hc hf => ⟨rfl, rfl, q m1 (hr.cp h6 hc) (fun x hx => hf x (by omega))⟩)⟩
theorem goesOn_loop {n : Nat} (hn : n ≤ 1000) (hd : 4 < d) (hw : lk 1000 = some 2000) : ∀ m i g mem, i + m = n → zRw mem 43 g → zWF g → g 6 + m ≤ 999999 → (∀ mem', zRw mem' 43 (mnG m g) → ztfr mem mem' → Q none mem') → zE X d 181 2 [.ref 1000, .int (nI n), .int (nI i)] [] mem lk L lk L Q := by
  intro m
  induction m with
  | zero =>
    intro i g mem hi hr wf h6 q
    have c1 : nI n ≤ nI i := by rw [nLe (by omega) (by omega)]; omega
    refine zE_do 40 2 (tbl := tX8_goesOn) zck_181 rfl (h := ?_)
    exact ⟨fun _ => ⟨rfl, rfl, q mem hr ztfr.rf⟩, fun c => absurd c1 c⟩
  | succ m ih =>
    intro i g mem hi hr wf h6 q
    have c1 : ¬ nI n ≤ nI i := by rw [nLe (by omega) (by omega)]; omega
    refine zE_do 40 2 (tbl := tX8_goesOn) zck_181 rfl (h := ?_)
    refine ⟨fun c => absurd c c1, fun _ => ⟨rfl, ok_mpasses (r := 43) (by omega) hw (by omega) hr.1 wf (by omega) hr.2 (fun m2 hb2 f2 => ?_)⟩⟩
    have h61 : zpass (fun e => e) g 6 = g 6 + 1 := zpass_6 wf.1
    have h01 : zpass (fun e => e) g 0 = g 0 := zpass_ne wf.1 (by omega) (by omega) (by omega) (by omega)
    have k := ih (i + 1) (zpass (fun e => e) g) m2 (by omega) (hr.to hb2 h01 f2) (zpass_wf wf (by omega)) (by omega) (fun m3 hb3 f3 => q m3 hb3 (f2.t.tr f3))
    rw [← nI_1] at k
    exact k
theorem ok_goesOn {n : Nat} (hn : n ≤ 1000) (hd : 4 < d) (hw : lk 1000 = some 2000) (hr : zRw mem 43 g) (wf : zWF g) (h6 : g 6 + n ≤ 999999) (q : ∀ mem', zRw mem' 43 (mnG n g) → ztfr mem mem' → Q none mem') : zOk X d 181 [.ref 1000, .int (nI n)] mem lk L lk L Q := by
  refine zOk_do 20 (tbl := tX8_goesOn) zck_181 rfl (by omega) (h := ?_)
  exact goesOn_loop hn hd hw n 0 g mem (by omega) hr wf h6 q
theorem ok_mlater {x : Int32} (hd : 5 < d) (hw : lk 1000 = some 2000) (hr : zRw mem 0 g) (hN : zNow g)
    (qS : g 0 = 0 → Q (some (.int (-(nI 1000002)))) mem) (qB : 0 < g 0 → (x.toInt < 0 ∨ 60 < x.toInt) → Q (some (.int (-(nI 1000001)))) mem)
    (q : ∀ n, 0 < g 0 → x = nI n → n ≤ 60 → ∀ mem', ztfr mem mem' → Q (some (.int (nI (mnG n g 4)))) mem') : zOk X d 183 [.ref 1000, .int x] mem lk L lk L Q := by
  refine zOk_do 60 (tbl := tX8_later) zck_183 rfl (by omega) (h := ?_)
  refine ⟨rfl, ok_misHouse (by omega) hw hr.1 hN.le.1 (fun h0 => zT_ne ?_) (fun h0 => zF_ne ⟨rfl, rfl, qS h0⟩)⟩
  have wf := hN.wf h0
  refine ok_min (a := 0) (b := 60) (by omega) (by omega) (by omega) (fun c => zF_ne ⟨rfl, rfl, qB h0 (by omega)⟩) (fun n h1 h2 ex => zT_ne ⟨rfl, ok_tries (by omega) hw hr wf.1.1 (fun m1 hr1 f1 => ⟨rfl, ?_⟩)⟩)
  have p := q n h0 ex h2
  subst ex
  refine ok_goesOn (by omega) (by omega) hw hr1 wf.1 (by omega) (fun m2 hr2 f2 => ⟨rfl, _, hw, Or.inl rfl, zwi0 (by omega), rfl, rfl, ?_⟩)
  have p1 := p m2 (f1.tr f2)
  rw [← hr2.1.k 4 (by omega)] at p1
  exact p1
theorem ok_mfine {x : Int32} (hd : 5 < d) (hw : lk 1000 = some 2000) (hr : zRw mem 0 g) (hN : zNow g)
    (qS : g 0 = 0 → Q (some (.int (-(nI 1000002)))) mem) (qB : 0 < g 0 → (x.toInt < 0 ∨ 60 < x.toInt) → Q (some (.int (-(nI 1000001)))) mem)
    (q : ∀ n, 0 < g 0 → x = nI n → n ≤ 60 → ∀ mem', ztfr mem mem' → Q (some (.int (nI (zfine (mnG n g) (g 0))))) mem') : zOk X d 187 [.ref 1000, .int x] mem lk L lk L Q := by
  refine zOk_do 60 (tbl := tX8_fine) zck_187 rfl (by omega) (h := ?_)
  refine ⟨rfl, ok_misHouse (by omega) hw hr.1 hN.le.1 (fun h0 => zT_ne ?_) (fun h0 => zF_ne ⟨rfl, rfl, qS h0⟩)⟩
  have wf := hN.wf h0
  refine ok_min (a := 0) (b := 60) (by omega) (by omega) (by omega) (fun c => zF_ne ⟨rfl, rfl, qB h0 (by omega)⟩) (fun n h1 h2 ex => zT_ne ⟨rfl, ok_tries (by omega) hw hr wf.1.1 (fun m1 hr1 f1 => ⟨rfl, ?_⟩)⟩)
  have p := q n h0 ex h2
  subst ex
  obtain ⟨w1, w2, w3⟩ := mnG_wf n g wf.1 (by omega)
  refine ok_goesOn (by omega) (by omega) hw hr1 wf.1 (by omega) (fun m2 hr2 f2 => ⟨rfl, ok_mfineOf (r := 43) (by omega) hw (by omega) hr2.1 w1 ⟨rfl, rfl, ?_⟩⟩)
  rw [w2]
  exact p m2 (f1.tr f2)
theorem ok_mahead {x y z : Int32} (hd : 5 < d) (hw : lk 1000 = some 2000) (hr : zRw mem 0 g) (hN : zNow g)
    (qB : ((x.toInt < 0 ∨ (g 0 : Int) ≤ x.toInt) ∨ (y.toInt < 0 ∨ 60 < y.toInt) ∨ (z.toInt < 0 ∨ 2 < z.toInt)) → Q (some (.int (-(nI 1000001)))) mem)
    (q : ∀ e n w, e < g 0 → x = nI e → y = nI n → n ≤ 60 → z = nI w → w ≤ 2 → ∀ mem', ztfr mem mem' → Q (some (.int (nI (zaheadA (mnG n g) e w)))) mem') : zOk X d 182 [.ref 1000, .int x, .int y, .int z] mem lk L lk L Q := by
  refine zOk_do 80 (tbl := tX8_ahead) zck_182 rfl (by omega) (h := ?_)
  refine ⟨rfl, ok_misDish (by omega) hw hr.1 hN.le.1 (fun e he ex => zT_eq ?_) (fun c => zF_eq ⟨rfl, rfl, qB (Or.inl c)⟩)⟩
  have wf := hN.wf (by omega)
  have w0 := wf.1.1
  refine ok_min (a := 0) (b := 60) (by omega) (by omega) (by omega) (fun c => zF_eq ⟨rfl, rfl, qB (Or.inr (Or.inl (by omega)))⟩) (fun n h1 h2 ey => zT_eq ?_)
  refine ok_min (a := 0) (b := 2) (by omega) (by omega) (by omega) (fun c => zF_ne ⟨rfl, rfl, qB (Or.inr (Or.inr (by omega)))⟩) (fun w h3 h4 ez => zT_ne ⟨rfl, ok_tries (by omega) hw hr wf.1.1 (fun m1 hr1 f1 => ⟨rfl, ?_⟩)⟩)
  have p := q e n w he ex ey h2 ez h4
  subst ex ey ez
  obtain ⟨w1, w2, w3⟩ := mnG_wf n g wf.1 (by omega)
  refine ok_goesOn (by omega) (by omega) hw hr1 wf.1 (by omega) (fun m2 hr2 f2 => ⟨rfl, _, hw, ?_⟩)
  have p1 := p m2 (f1.tr f2)
  have he1 : e < mnG n g 0 := by rw [w2]; exact he
  have ea := hr2.1.ra (by omega) (by omega) he1
  have ec := hr2.1.rw (by omega) (by omega) he1
  have ed := hr2.1.rh (by omega) (by omega) he1
  unfold zaheadA at p1
  refine ⟨fun c => ⟨fun c2 => ⟨Or.inl rfl, zwi2 (by omega), rfl, rfl, ?_⟩, fun c2 => ⟨Or.inl rfl, zwi2 (by omega), rfl, rfl, ?_⟩⟩, fun c => ⟨Or.inl rfl, zwi2 (by omega), rfl, rfl, ?_⟩⟩
  · have c : ¬ nI w = 0 := c
    have c2 : ¬ nI w = nI 1 := c2
    rw [n0 (by omega)] at c
    rw [nEq (by omega) (by omega)] at c2
    rw [if_neg c, if_neg c2, ← ec] at p1
    exact p1
  · have c : ¬ nI w = 0 := c
    have c2 : nI w = nI 1 := c2
    rw [n0 (by omega)] at c
    rw [nEq (by omega) (by omega)] at c2
    rw [if_neg c, if_pos c2, ← ed] at p1
    exact p1
  · have c : nI w = 0 := c
    rw [n0 (by omega)] at c
    rw [if_pos c, ← ea] at p1
    exact p1
end MF
