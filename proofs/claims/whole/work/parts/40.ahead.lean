/-! what is foretold: behind, ahead, later, fine -/
def zaheadA (g : zH) (e w : Nat) : Nat := if w = 0 then g (13 + e) else if w = 1 then g (31 + e) else g (25 + e)
/-- what a trial of the reference leaves -/
def ztfr (mem mem' : zMem) : Prop := ∀ x, ¬ (2043 ≤ x ∧ x < 2086) → mem' x = mem x
theorem ztfr.rf {mem : zMem} : ztfr mem mem := fun _ _ => rfl
theorem ztfr.tr {m1 m2 m3 : zMem} (h : ztfr m1 m2) (h' : ztfr m2 m3) : ztfr m1 m3 := fun x a => (h' x a).trans (h x a)
theorem zfr.t {mem mem' : zMem} (h : zfr mem mem' (2000 + 43)) : ztfr mem mem' := fun x a => h x (by omega)
section FT
variable {X d : Nat} {mem : zMem} {lk : zLk} {L : List Nat} {Q : Option Value → zMem → Prop} {g : zH}
theorem passTrial_loop {n : Nat} (hn : n ≤ 1000) (hd : 3 < d) (hk : zKs lk) (hh : zHo lk 10128) : ∀ m i g mem, i + m = n → zHB mem 10128 g → zWF g → g 6 + m ≤ 999999 → zSt mem → (∀ mem', zHB mem' 10128 (mnG m g) → zfr mem mem' 10128 → Q none mem') → zE X d 14 2 [.ref 710, .int (nI n), .int (nI i)] [] mem lk L lk L Q := by
  intro m
  induction m with
  | zero =>
    intro i g mem hi hb wf h6 hS q
    have c1 : nI n ≤ nI i := by rw [nLe (by omega) (by omega)]; omega
    refine zE_do 40 2 (tbl := tX2_passTrial) zck_14 rfl (h := ?_)
    exact ⟨fun _ => ⟨rfl, rfl, q mem hb zfr.rf⟩, fun c => absurd c1 c⟩
  | succ m ih =>
    intro i g mem hi hb wf h6 hS q
    have c1 : ¬ nI n ≤ nI i := by rw [nLe (by omega) (by omega)]; omega
    refine zE_do 40 2 (tbl := tX2_passTrial) zck_14 rfl (h := ?_)
    refine ⟨fun c => absurd c c1, fun _ => ⟨rfl, _, hk.at 710 10128, by rw [hh.k3]; rfl, ok_pass (by omega) hh hb wf (by omega) (hS.ord (by omega)) (fun m2 hb2 f2 => ?_)⟩⟩
    have h61 : zpass (fun e => e) g 6 = g 6 + 1 := zpass_6 wf.1
    have k := ih (i + 1) (zpass (fun e => e) g) m2 (by omega) hb2 (zpass_wf wf (by omega)) (by omega) (hS.fr f2 (Or.inl (by omega))) (fun m3 hb3 f3 => q m3 hb3 (f2.tr f3))
    rw [← nI_1] at k
    exact k
theorem ok_passTrial {n : Nat} (hn : n ≤ 1000) (hd : 3 < d) (hk : zKs lk) (hh : zHo lk 10128) (hb : zHB mem 10128 g) (wf : zWF g) (h6 : g 6 + n ≤ 999999) (hS : zSt mem) (q : ∀ mem', zHB mem' 10128 (mnG n g) → zfr mem mem' 10128 → Q none mem') : zOk X d 14 [.ref 710, .int (nI n)] mem lk L lk L Q := by
  refine zOk_do 20 (tbl := tX2_passTrial) zck_14 rfl (by omega) (h := ?_)
  exact passTrial_loop hn hd hk hh n 0 g mem (by omega) hb wf h6 hS q
theorem ok_behind {n : Nat} (hn : n ≤ 1000) (hd : 4 < d) (hk : zKs lk) (hh : zHo lk 10128) (ho : zHo lk 10000) (hb : zHB mem 10000 g) (wf : zWF g) (h6 : g 6 + n ≤ 999999) (hS : zSt mem) (q : ∀ mem', zHB mem' 10128 (mnG n g) → zfr mem mem' 10128 → Q (some (.ref 10128)) mem') : zOk X d 13 [.ref 710, .ref 10000, .int (nI n)] mem lk L lk L Q := by
  refine zOk_do 20 (tbl := tX2_behind) zck_13 rfl (by omega) (h := ?_)
  refine ⟨rfl, _, hk.at 710 10128, by rw [hh.k3]; rfl, ok_become (by omega) hh ho (by omega) hb wf.1 (fun m1 hb1 f1 => ⟨rfl, ok_passTrial hn (by omega) hk hh hb1 wf h6 (hS.fr f1 (Or.inl (by omega))) (fun m2 hb2 f2 => ⟨rfl, _, hk.at 710 10128, rfl, rfl, q m2 hb2 (f1.tr f2)⟩)⟩)⟩
theorem ok_later {x : Int32} (hd : 5 < d) (hk : zKs lk) (hh : zHo lk 10128) (ho : zHo lk 10000) (hb : zHB mem 10000 g) (hN : zNow g) (hS : zSt mem)
    (qS : g 0 = 0 → Q (some (.int (-(nI 1000002)))) mem) (qB : 0 < g 0 → (x.toInt < 0 ∨ 60 < x.toInt) → Q (some (.int (-(nI 1000001)))) mem)
    (q : ∀ n, 0 < g 0 → x = nI n → n ≤ 60 → ∀ mem', zfr mem mem' 10128 → Q (some (.int (nI (mnG n g 4)))) mem') : zOk X d 107 [.ref 100, .int x] mem lk L lk L Q := by
  refine zOk_do 60 (tbl := tX7_later) zck_107 rfl (by omega) (h := ?_)
  refine ⟨rfl, _, hk.at 102 10000, by rw [ho.k3]; rfl, ok_stands (by omega) ho hb hN.le.1 (fun h0 => zT_ne ?_) (fun h0 => zF_ne ⟨rfl, rfl, qS h0⟩)⟩
  have wf := hN.wf h0
  refine ok_isOutside (a := 0) (b := 60) (by omega) (by omega) (by omega) (fun c => zT_eq ⟨rfl, rfl, qB h0 (by omega)⟩) (fun n h1 h2 ex => zF_eq ⟨rfl, _, hk.at 106 710, rfl, _, hk.at 102 10000, rfl, ?_⟩)
  subst ex
  refine ok_behind (by omega) (by omega) hk hh ho hb wf.1 (by omega) hS (fun m1 hb1 f1 => ⟨hh.k3, rfl, rfl, ?_⟩)
  have := q n h0 rfl h2 m1 f1
  rw [← hb1.k 4 (by omega)] at this
  exact this
theorem ok_fine {x : Int32} (hd : 7 < d) (hk : zKs lk) (hh : zHo lk 10128) (ho : zHo lk 10000) (hb : zHB mem 10000 g) (hN : zNow g) (hS : zSt mem)
    (qS : g 0 = 0 → Q (some (.int (-(nI 1000002)))) mem) (qB : 0 < g 0 → (x.toInt < 0 ∨ 60 < x.toInt) → Q (some (.int (-(nI 1000001)))) mem)
    (q : ∀ n, 0 < g 0 → x = nI n → n ≤ 60 → ∀ mem', zfr mem mem' 10128 → Q (some (.int (nI (zfine (mnG n g) (g 0))))) mem') : zOk X d 110 [.ref 100, .int x] mem lk L lk L Q := by
  refine zOk_do 60 (tbl := tX7_fine) zck_110 rfl (by omega) (h := ?_)
  refine ⟨rfl, _, hk.at 102 10000, by rw [ho.k3]; rfl, ok_stands (by omega) ho hb hN.le.1 (fun h0 => zT_ne ?_) (fun h0 => zF_ne ⟨rfl, rfl, qS h0⟩)⟩
  have wf := hN.wf h0
  refine ok_isOutside (a := 0) (b := 60) (by omega) (by omega) (by omega) (fun c => zT_eq ⟨rfl, rfl, qB h0 (by omega)⟩) (fun n h1 h2 ex => zF_eq ⟨rfl, _, hk.at 106 710, rfl, _, hk.at 102 10000, rfl, ?_⟩)
  subst ex
  obtain ⟨w1, w2, w3⟩ := mnG_wf n g wf.1 (by omega)
  refine ok_behind (by omega) (by omega) hk hh ho hb wf.1 (by omega) hS (fun m1 hb1 f1 => ⟨by rw [hh.k3]; rfl, ok_servedGood (by omega) (hS.fr f1 (Or.inl (by omega))) hh hb1 w1 ⟨rfl, rfl, ?_⟩⟩)
  rw [w2]
  exact q n h0 rfl h2 m1 f1
theorem ok_ahead {x y z : Int32} (hd : 5 < d) (hk : zKs lk) (hh : zHo lk 10128) (ho : zHo lk 10000) (hb : zHB mem 10000 g) (hN : zNow g) (hS : zSt mem)
    (qB : ((x.toInt < 0 ∨ (g 0 : Int) ≤ x.toInt) ∨ (y.toInt < 0 ∨ 60 < y.toInt) ∨ (z.toInt < 0 ∨ 2 < z.toInt)) → Q (some (.int (-(nI 1000001)))) mem)
    (q : ∀ e n w, e < g 0 → x = nI e → y = nI n → n ≤ 60 → z = nI w → w ≤ 2 → ∀ mem', zfr mem mem' 10128 → Q (some (.int (nI (zaheadA (mnG n g) e w)))) mem') : zOk X d 106 [.ref 100, .int x, .int y, .int z] mem lk L lk L Q := by
  refine zOk_do 80 (tbl := tX7_ahead) zck_106 rfl (by omega) (h := ?_)
  refine ⟨rfl, _, hk.at 102 10000, by rw [ho.k3]; rfl, ok_isDish (by omega) ho hb hN.le.1 (fun e he ex => zT_eq ?_) (fun c => zF_eq ⟨rfl, rfl, qB (Or.inl c)⟩)⟩
  have wf := hN.wf (by omega)
  have w0 := wf.1.1
  refine ok_isOutside (a := 0) (b := 60) (by omega) (by omega) (by omega) (fun c => zT_ne ⟨rfl, rfl, qB (Or.inr (Or.inl (by omega)))⟩) (fun n h1 h2 ey => zF_ne ?_)
  refine ok_isOutside (a := 0) (b := 2) (by omega) (by omega) (by omega) (fun c => zT_eq ⟨rfl, rfl, qB (Or.inr (Or.inr (by omega)))⟩) (fun w h3 h4 ez => zF_eq ⟨rfl, _, hk.at 106 710, rfl, _, hk.at 102 10000, rfl, ?_⟩)
  have p := q e n w he ex ey h2 ez h4
  subst ex ey ez
  obtain ⟨w1, w2, w3⟩ := mnG_wf n g wf.1 (by omega)
  refine ok_behind (by omega) (by omega) hk hh ho hb wf.1 (by omega) hS (fun m1 hb1 f1 => ?_)
  have p1 := p m1 f1
  have he1 : e < mnG n g 0 := by rw [w2]; exact he
  have ea : m1 (10128 + (7 + 6 * 1) + (nI e).toNatClampNeg) = nI (mnG n g (13 + e)) := by rw [nC (by omega)]; exact hb1.at he1
  have ec : m1 (10128 + (7 + 6 * 3) + (nI e).toNatClampNeg) = nI (mnG n g (25 + e)) := by rw [nC (by omega)]; exact hb1.wt he1
  have ed : m1 (10128 + (7 + 6 * 4) + (nI e).toNatClampNeg) = nI (mnG n g (31 + e)) := by rw [nC (by omega)]; exact hb1.ht he1
  unfold zaheadA at p1
  refine ⟨fun c => ⟨fun c2 => ⟨hh.k3, _, hh.lk 3 (by omega), Or.inl (hh.ka 3 (by omega)), hh.inn (by omega), rfl, rfl, ?_⟩, fun c2 => ⟨hh.k3, _, hh.lk 4 (by omega), Or.inl (hh.ka 4 (by omega)), hh.inn (by omega), rfl, rfl, ?_⟩⟩, fun c => ⟨hh.k3, _, hh.lk 1 (by omega), Or.inl (hh.ka 1 (by omega)), hh.inn (by omega), rfl, rfl, ?_⟩⟩
  · have c : ¬ nI w = 0 := c
    have c2 : ¬ nI w = nI 1 := c2
    rw [n0 (by omega)] at c
    rw [nEq (by omega) (by omega)] at c2
    rw [if_neg c, if_neg c2, ← ec] at p1
    exact p1
  · have c : ¬ nI w = 0 := c
    have c2 : nI w = nI 1 := c2
    rw [n0 (by omega)] at c
    rw [nEq (by omega) (by omega)] at c2
    rw [if_neg c, if_pos c2, ← ed] at p1
    exact p1
  · have c : nI w = 0 := c
    rw [n0 (by omega)] at c
    rw [if_pos c, ← ea] at p1
    exact p1
end FT
