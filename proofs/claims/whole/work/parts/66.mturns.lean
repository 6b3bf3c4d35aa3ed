/-! the reference: byTurns -/
def zVt (mem : zMem) (hf : Nat → Nat) (fl n e : Nat) : Prop := ∀ e' f, e ≤ e' → e' ≤ n → f < fl → mem (3820 + (9 * e' + f)) = nI (zpl hf fl (n - e') e' f)
def zwfr (mem mem' : zMem) : Prop := ∀ x, ¬ (3820 ≤ x ∧ x < 3865) → ¬ (2043 ≤ x ∧ x < 2086) → mem' x = mem x
theorem zwfr.rf {mem : zMem} : zwfr mem mem := fun _ _ _ => rfl
theorem zwfr.tr {m1 m2 m3 : zMem} (h : zwfr m1 m2) (h' : zwfr m2 m3) : zwfr m1 m3 := fun x a b => (h' x a b).trans (h x a b)
theorem zwfr.up {mem : zMem} {y : Nat} {v : Int32} (h : 3820 ≤ y ∧ y < 3865) : zwfr mem (upd mem y v) := fun x e _ => upd_ne (by omega)
theorem ztfr.w {m1 m2 : zMem} (h : ztfr m1 m2) : zwfr m1 m2 := fun x _ b => h x b
section MB
variable {X d : Nat} {mem : zMem} {lk : zLk} {L : List Nat} {Q : Option Value → zMem → Prop} {g : zH}
theorem zML.v {lk : zLk} (h : zML lk) : lk 1015 = some 3820 := h.2.2.2.2.2.2.2.2.1
theorem in45 {X s : Nat} (h : s < 45) : vp_in (nI s) (ln X 3820) := vp_in_nI h (by show 45 < 2 ^ 31; decide)
theorem ok_heatFrom {f n : Nat} (hn : n ≤ 1000) (hd : 5 < d) (hw : lk 1000 = some 2000) (hr : zRw mem 0 g) (wf : zWF g) (hf : f < g 1) (h6 : g 6 + n ≤ 999999) (q : ∀ mem', ztfr mem mem' → Q (some (.int (nI (zHF g n f)))) mem') : zOk X d 195 [.ref 1000, .int (nI f), .int (nI n)] mem lk L lk L Q := by
  have w4 : zWF (va_up g 4 f) := wf.s4 hf
  have e6 : va_up g 4 f 6 = g 6 := zup_ne (by omega)
  have e0 : va_up g 4 f 0 = g 0 := zup_ne (by omega)
  obtain ⟨x1, x2, x3⟩ := mnG_wf n (va_up g 4 f) w4 (by omega)
  refine zOk_do 40 (tbl := tX8_heatFrom) zck_195 rfl (by omega) (h := ?_)
  refine ⟨rfl, ok_tries (by omega) hw hr wf.1 (fun m1 hr1 f1 => ⟨rfl, _, hw, rfl, zwi0 (by omega), rfl, ?_⟩)⟩
  have f2 : zfr m1 (upd m1 (2000 + (nI 47).toNatClampNeg) (nI f)) (2000 + 43) := zfr.up (by show 2000 + 43 ≤ 2000 + 47; omega) (by show 2000 + 47 < _; omega)
  have hr2 : zRw (upd m1 (2000 + (nI 47).toNatClampNeg) (nI f)) 43 (va_up g 4 f) := hr1.to (hr1.1.set 4 f (by omega) rfl) e0 f2
  refine ok_goesOn hn (by omega) hw hr2 w4 (by omega) (fun m3 hr3 f3 => ⟨rfl, ok_mheatServed (r := 43) (by omega) hw (by omega) hr3.1 x1 ⟨rfl, rfl, ?_⟩⟩)
  rw [x2, e0]
  exact q m3 ((f1.tr f2.t).tr f3)
theorem mbt_inner {n t e : Nat} (hn : n ≤ 4) (ht : t ≤ 20) (he : e < n) (hd : 5 < d) (hk : zML lk) (wf : zWF g) (h6 : g 6 ≤ 999) : ∀ m f mem v5 v6 v7 v8, f + m = g 1 → zRw mem 0 g → zVt mem (zHF g t) (g 1) n (e + 1) → (∀ f', f' < f → mem (3820 + (9 * e + f')) = nI (zpl (zHF g t) (g 1) (n - e) e f')) →
    (∀ mem' v4 v5 v6 v7 v8, zwfr mem mem' → zVt mem' (zHF g t) (g 1) n e → zE X d 196 76 [.ref 1000, .int (nI n), .int (nI t), .int (nI e + -(nI 1)), v4, v5, v6, v7, v8] [] mem' lk L lk L Q) → zE X d 196 83 [.ref 1000, .int (nI n), .int (nI t), .int (nI e), .int (nI f), v5, v6, v7, v8] [] mem lk L lk L Q := by
  have w9 := wf.2.2.1
  have hle := zpl_le (zHF g t) (g 1) (zHF_le wf (by omega))
  intro m
  induction m with
  | zero =>
    intro f mem v5 v6 v7 v8 hf hr V W q
    have e1 : mem (2000 + (nI 1).toNatClampNeg) = nI (g 1) := hr.1.k 1 (by omega)
    refine zE_do 60 83 (tbl := tX8_byTurns) zck_196 rfl (h := ?_)
    refine ⟨rfl, _, hk.1, Or.inl rfl, zwi0 (by omega), fun _ => q mem _ _ _ _ _ zwfr.rf (fun e' f' h1 h2 h3 => ?_), fun c => ?_⟩
    · by_cases z : e' = e
      · subst z; exact W f' (by omega)
      · exact V e' f' (by omega) h2 h3
    · exfalso
      have c : ¬ mem (2000 + (nI 1).toNatClampNeg) ≤ nI f := c
      rw [e1, nLe (by omega) (by omega)] at c
      omega
  | succ m ih =>
    intro f mem v5 v6 v7 v8 hf hr V W q
    have hf1 : f < g 1 := by omega
    have e1 : mem (2000 + (nI 1).toNatClampNeg) = nI (g 1) := hr.1.k 1 (by omega)
    have l1 := hle (n - (e + 1)) (e + 1) f hf1
    have ea : (nI 9 * nI e + nI f).toNatClampNeg = 9 * e + f := by rw [nmul, nI_add, nC (by omega)]
    have ia : vp_in (nI 9 * nI e + nI f) (ln X 3820) := by rw [nmul, nI_add]; exact in45 (by omega)
    have eb : ∀ x y, x ≤ 4 → y ≤ 8 → (nI 9 * (nI x + nI 1) + nI y) = nI (9 * (x + 1) + y) := fun x y _ _ => by rw [nI_add, nmul, nI_add]
    have es : mem (3820 + (nI 9 * (nI e + nI 1) + nI f).toNatClampNeg) = nI (zpl (zHF g t) (g 1) (n - (e + 1)) (e + 1) f) := by rw [eb e f (by omega) (by omega), nC (by omega)]; exact V (e + 1) f (by omega) (by omega) hf1
    have hne : n - e = (n - (e + 1)) + 1 := by omega
    generalize hS : zpl (zHF g t) (g 1) (n - (e + 1)) (e + 1) f = S at l1 es
    -- the end of a step
    have K218 : ∀ v v5 v6 v7 v8, v = zpl (zHF g t) (g 1) (n - e) e f → zE X d 196 218 [.ref 1000, .int (nI n), .int (nI t), .int (nI e), .int (nI f), v5, v6, v7, v8] [] (upd mem (3820 + (nI 9 * nI e + nI f).toNatClampNeg) (nI v)) lk L lk L Q := fun v v5 v6 v7 v8 hv => by
      have F : zwfr mem (upd mem (3820 + (nI 9 * nI e + nI f).toNatClampNeg) (nI v)) := zwfr.up (by omega)
      have k := ih (f + 1) (upd mem (3820 + (nI 9 * nI e + nI f).toNatClampNeg) (nI v)) v5 v6 v7 v8 (by omega) (hr.same wf.1 (fun j hj => F _ (by omega) (by omega))) (fun e' f' h1 h2 h3 => by rw [upd_ne (by omega)]; exact V e' f' h1 h2 h3) (fun f' hf' => ?_) (fun m2 v4 v5 v6 v7 v8 f2 V2 => q m2 v4 v5 v6 v7 v8 (F.tr f2) V2)
      · rw [show nI (f + 1) = nI f + nI 1 from (nI_add f 1).symm] at k
        refine zE_do 60 218 (tbl := tX8_byTurns) zck_196 rfl (h := ?_)
        exact k
      · by_cases z : f' = f
        · subst z; rw [ea, upd_eq, hv]
        · rw [upd_ne (by omega)]; exact W f' (by omega)
    have K194 : ∀ c v6 G, c ≤ 1 → (if c = 0 then S else G) = zpl (zHF g t) (g 1) (n - e) e f → zE X d 196 194 [.ref 1000, .int (nI n), .int (nI t), .int (nI e), .int (nI f), .int (nI S), v6, .int (nI G), .int (nI c)] [] mem lk L lk L Q := fun c v6 G hc hv => by
      refine zgoc [218] 60 194 (tbl := tX8_byTurns) zck_196 rfl (h := ?_)
      refine ⟨rfl, _, hk.v, fun z => ⟨rfl, ia, K218 S _ _ _ _ ?_⟩, fun z => ⟨rfl, ia, K218 G _ _ _ _ ?_⟩⟩
      · have z : nI c = 0 := z
        rw [n0 (by omega)] at z
        rw [if_pos z] at hv
        exact hv
      · have z : ¬ nI c = 0 := z
        rw [n0 (by omega)] at z
        rw [if_neg z] at hv
        exact hv
    have K159 : ∀ v6 G v8, G ≤ 1000 → (if e % 2 = 0 then zmax S G else zmin S G) = zpl (zHF g t) (g 1) (n - e) e f → zE X d 196 159 [.ref 1000, .int (nI n), .int (nI t), .int (nI e), .int (nI f), .int (nI S), .int v6, .int (nI G), v8] [] mem lk L lk L Q := fun v6 G v8 hG hv => by
      unfold zmax zmin at hv
      refine zgoc [194] 60 159 (tbl := tX8_byTurns) zck_196 rfl (h := ?_)
      refine ⟨by decide, fun z => ⟨fun c => K194 0 _ G (by omega) ?_, fun c => K194 1 _ G (by omega) ?_⟩, fun z => ⟨fun c => K194 0 _ G (by omega) ?_, fun c => K194 1 _ G (by omega) ?_⟩⟩
      all_goals rw [nrem (by omega) (by omega) (by omega), n0 (by omega)] at z
      · have c : nI S ≤ nI G := c
        rw [nLe (by omega) (by omega)] at c
        rw [if_neg z, if_neg (by omega)] at hv
        exact hv
      · have c : ¬ nI S ≤ nI G := c
        rw [nLe (by omega) (by omega)] at c
        rw [if_neg z, if_pos (by omega)] at hv
        exact hv
      · have c : nI G ≤ nI S := c
        rw [nLe (by omega) (by omega)] at c
        rw [if_pos z, if_neg (by omega)] at hv
        exact hv
      · have c : ¬ nI G ≤ nI S := c
        rw [nLe (by omega) (by omega)] at c
        rw [if_pos z, if_pos (by omega)] at hv
        exact hv
    have K129 : ∀ to v7 v8, (∀ f', f' < g 1 → to = nI f' → (if e % 2 = 0 then zmax S (zpl (zHF g t) (g 1) (n - (e + 1)) (e + 1) f') else zmin S (zpl (zHF g t) (g 1) (n - (e + 1)) (e + 1) f')) = zpl (zHF g t) (g 1) (n - e) e f) → ((to.toInt < 0 ∨ (g 1 : Int) ≤ to.toInt) → S = zpl (zHF g t) (g 1) (n - e) e f) → zE X d 196 129 [.ref 1000, .int (nI n), .int (nI t), .int (nI e), .int (nI f), .int (nI S), .int to, v7, v8] [] mem lk L lk L Q := fun to v7 v8 q1 q0 => by
      refine zgoc [159] 60 129 (tbl := tX8_byTurns) zck_196 rfl (h := ?_)
      refine ⟨rfl, ok_misFloor (by omega) hk.1 hr.1 w9 (fun f' hf' ef => zT_eq ⟨rfl, _, hk.v, Or.inl rfl, ?_, ?_⟩) (fun cf => zF_eq (K159 to S v8 (by omega) ?_))⟩
      · rw [ef, eb e f' (by omega) (by omega)]; exact in45 (by omega)
      · have k := K159 to (zpl (zHF g t) (g 1) (n - (e + 1)) (e + 1) f') v8 (hle _ _ _ hf') (q1 f' hf' ef)
        have eg : mem (3820 + (nI 9 * (nI e + nI 1) + to).toNatClampNeg) = nI (zpl (zHF g t) (g 1) (n - (e + 1)) (e + 1) f') := by rw [ef, eb e f' (by omega) (by omega), nC (by omega)]; exact V (e + 1) f' (by omega) (by omega) hf'
        rw [← eg] at k
        exact k
      · rw [← q0 cf]
        unfold zmax zmin
        split
        · rw [if_neg (by omega)]
        · rw [if_neg (by omega)]
    have hz : zpl (zHF g t) (g 1) (n - e) e f = (if e % 2 = 0 then (if 1 ≤ f then zmax S (zpl (zHF g t) (g 1) (n - (e + 1)) (e + 1) (f - 1)) else S) else (if f + 1 < g 1 then zmin S (zpl (zHF g t) (g 1) (n - (e + 1)) (e + 1) (f + 1)) else S)) := by
      rw [hne, ← hS]; rfl
    refine zgoc [129] 60 83 (tbl := tX8_byTurns) zck_196 rfl (h := ?_)
    refine ⟨rfl, _, hk.1, Or.inl rfl, zwi0 (by omega), fun c => ?_, fun _ => ⟨rfl, _, hk.v, Or.inl rfl, ?_, by decide, fun z => ?_, fun z => ?_⟩⟩
    · exfalso
      have c : mem (2000 + (nI 1).toNatClampNeg) ≤ nI f := c
      rw [e1, nLe (by omega) (by omega)] at c
      omega
    · rw [eb e f (by omega) (by omega)]; exact in45 (by omega)
    · have z : ¬ nI e - nI e / nI 2 * nI 2 = 0 := z
      rw [nrem (by omega) (by omega) (by omega), n0 (by omega)] at z
      have k := K129 (nI f + nI 1) v7 v8 (fun f' hf' ef => by
        rw [nI_add, nEq (by omega) (by omega)] at ef
        rw [hz, if_neg z, if_neg z, if_pos (by omega), ef]) (fun cf => by
        rw [nI_add, nT (by omega)] at cf
        rw [hz, if_neg z, if_neg (by omega)])
      rw [← es] at k
      exact k
    · have z : nI e - nI e / nI 2 * nI 2 = 0 := z
      rw [nrem (by omega) (by omega) (by omega), n0 (by omega)] at z
      have k := K129 (nI f - nI 1) v7 v8 (fun f' hf' ef => by
        have ef := congrArg Int32.toInt ef
        rw [nsubT (by omega) (by omega), nT (by omega)] at ef
        rw [hz, if_pos z, if_pos z, if_pos (by omega), show f - 1 = f' by omega]) (fun cf => by
        rw [nsubT (by omega) (by omega)] at cf
        rw [hz, if_pos z, if_neg (by omega)])
      rw [← es] at k
      exact k
theorem mbt_outer {n t : Nat} (hn : n ≤ 4) (ht : t ≤ 20) (hd : 5 < d) (hk : zML lk) (wf : zWF g) (h6 : g 6 ≤ 999) : ∀ e mem v4 v5 v6 v7 v8, e ≤ n → zRw mem 0 g → zVt mem (zHF g t) (g 1) n e → (∀ mem', zwfr mem mem' → Q (some (.int (nI (zpl (zHF g t) (g 1) n 0 (g 4))))) mem') → zE X d 196 76 [.ref 1000, .int (nI n), .int (nI t), .int (nI e - nI 1), v4, v5, v6, v7, v8] [] mem lk L lk L Q := by
  have w9 := wf.2.2.1
  have w4 := wf.2.2.2.2.2.1
  intro e
  induction e with
  | zero =>
    intro mem v4 v5 v6 v7 v8 he hr V q
    have e4 : mem (2000 + (nI 4).toNatClampNeg) = nI (g 4) := hr.1.k 4 (by omega)
    have ev : mem (3820 + (mem (2000 + (nI 4).toNatClampNeg)).toNatClampNeg) = nI (zpl (zHF g t) (g 1) n 0 (g 4)) := by
      have := V 0 (g 4) (by omega) (by omega) w4
      rw [e4, nC (by omega)]
      rw [show 9 * 0 + g 4 = g 4 by omega] at this
      exact this
    have p := q mem zwfr.rf
    rw [← ev] at p
    refine zE_do 60 76 (tbl := tX8_byTurns) zck_196 rfl (h := ?_)
    refine ⟨fun _ => ⟨rfl, _, hk.v, rfl, _, hk.1, Or.inl rfl, zwi0 (by omega), Or.inl rfl, ?_, rfl, rfl, p⟩, fun c => absurd (show nI 0 - nI 1 < (0 : Int32) by decide) c⟩
    rw [e4]; exact in45 (by omega)
  | succ e ih =>
    intro mem v4 v5 v6 v7 v8 he hr V q
    rw [nsub (show 1 ≤ e + 1 by omega) (by omega), show e + 1 - 1 = e by omega]
    have c1 : ¬ nI e < (0 : Int32) := by rw [i_lt, i_0, nT (by omega)]; omega
    refine zE_do 60 76 (tbl := tX8_byTurns) zck_196 rfl (h := ?_)
    refine ⟨fun c => absurd c c1, fun _ => ?_⟩
    exact mbt_inner hn ht (by omega) hd hk wf h6 (g 1) 0 mem _ _ _ _ (by omega) hr V (fun f' hf' => by omega) (fun m2 v4 v5 v6 v7 v8 f2 V2 => by
      rw [← Int32.sub_eq_add_neg]
      exact ih m2 v4 v5 v6 v7 v8 (by omega) (hr.same wf.1 (fun j hj => f2 _ (by omega) (by omega))) V2 (fun m3 f3 => q m3 (f2.tr f3)))
theorem mbt_first {n t : Nat} (hn : n ≤ 4) (ht : t ≤ 20) (hd : 6 < d) (hk : zML lk) (wf : zWF g) (h6 : g 6 ≤ 999) : ∀ m f mem v4 v5 v6 v7 v8, f + m = g 1 → zRw mem 0 g → (∀ f', f' < f → mem (3820 + (9 * n + f')) = nI (zHF g t f')) → (∀ mem', zwfr mem mem' → Q (some (.int (nI (zpl (zHF g t) (g 1) n 0 (g 4))))) mem') → zE X d 196 39 [.ref 1000, .int (nI n), .int (nI t), .int (nI f), v4, v5, v6, v7, v8] [] mem lk L lk L Q := by
  have w9 := wf.2.2.1
  intro m
  induction m with
  | zero =>
    intro f mem v4 v5 v6 v7 v8 hf hr V q
    have e1 : mem (2000 + (nI 1).toNatClampNeg) = nI (g 1) := hr.1.k 1 (by omega)
    refine zE_do 60 39 (tbl := tX8_byTurns) zck_196 rfl (h := ?_)
    refine ⟨rfl, _, hk.1, Or.inl rfl, zwi0 (by omega), fun _ => ?_, fun c => ?_⟩
    · refine mbt_outer hn ht (by omega) hk wf h6 n mem _ _ _ _ _ (Nat.le_refl _) hr (fun e' f' h1 h2 h3 => ?_) q
      have z : e' = n := by omega
      subst z
      rw [show e' - e' = 0 by omega]
      exact V f' (by omega)
    · exfalso
      have c : ¬ mem (2000 + (nI 1).toNatClampNeg) ≤ nI f := c
      rw [e1, nLe (by omega) (by omega)] at c
      omega
  | succ m ih =>
    intro f mem v4 v5 v6 v7 v8 hf hr V q
    have e1 : mem (2000 + (nI 1).toNatClampNeg) = nI (g 1) := hr.1.k 1 (by omega)
    have ea : (nI 9 * nI n + nI f).toNatClampNeg = 9 * n + f := by rw [nmul, nI_add, nC (by omega)]
    refine zE_do 60 39 (tbl := tX8_byTurns) zck_196 rfl (h := ?_)
    refine ⟨rfl, _, hk.1, Or.inl rfl, zwi0 (by omega), fun c => ?_, fun _ => ⟨rfl, _, hk.v, rfl, ok_heatFrom (by omega) (by omega) hk.1 hr wf (by omega) (by omega) (fun m1 f1 => ⟨rfl, ?_, ?_⟩)⟩⟩
    · exfalso
      have c : mem (2000 + (nI 1).toNatClampNeg) ≤ nI f := c
      rw [e1, nLe (by omega) (by omega)] at c
      omega
    · rw [nmul, nI_add]; exact in45 (by omega)
    · have F : zwfr mem (upd m1 (3820 + (nI 9 * nI n + nI f).toNatClampNeg) (nI (zHF g t f))) := f1.w.tr (zwfr.up (by omega))
      have k := ih (f + 1) (upd m1 (3820 + (nI 9 * nI n + nI f).toNatClampNeg) (nI (zHF g t f))) v4 v5 v6 v7 v8 (by omega) (hr.same wf.1 (fun j hj => F _ (by omega) (by omega))) (fun f' hf' => ?_) (fun m2 f2 => q m2 (F.tr f2))
      · rw [show nI (f + 1) = nI f + nI 1 from (nI_add f 1).symm] at k
        exact k
      · by_cases z : f' = f
        · subst z; rw [ea, upd_eq]
        · rw [upd_ne (by omega), f1 _ (by omega)]; exact V f' (by omega)
theorem ok_mbyTurns {x y : Int32} (hd : 7 < d) (hk : zML lk) (hr : zRw mem 0 g) (hN : zNow g)
    (qS : g 0 = 0 → Q (some (.int (-(nI 1000002)))) mem) (qB : 0 < g 0 → ((x.toInt < 0 ∨ 4 < x.toInt) ∨ (y.toInt < 1 ∨ 20 < y.toInt)) → Q (some (.int (-(nI 1000001)))) mem)
    (q : ∀ n t, 0 < g 0 → x = nI n → n ≤ 4 → y = nI t → 1 ≤ t ∧ t ≤ 20 → ∀ mem', zwfr mem mem' → Q (some (.int (nI (zpl (zHF g t) (g 1) n 0 (g 4))))) mem') : zOk X d 196 [.ref 1000, .int x, .int y] mem lk L lk L Q := by
  refine zOk_do 60 (tbl := tX8_byTurns) zck_196 rfl (by omega) (h := ?_)
  refine ⟨rfl, ok_misHouse (by omega) hk.1 hr.1 hN.le.1 (fun h0 => zT_ne ?_) (fun h0 => zF_ne ⟨rfl, rfl, qS h0⟩)⟩
  have wf := hN.wf h0
  refine ok_min (a := 0) (b := 4) (by omega) (by omega) (by omega) (fun c => zF_eq ⟨rfl, rfl, qB h0 (Or.inl (by omega))⟩) (fun n h1 h2 ex => zT_eq ?_)
  refine ok_min (a := 1) (b := 20) (by omega) (by omega) (by omega) (fun c => zF_ne ⟨rfl, rfl, qB h0 (Or.inr (by omega))⟩) (fun t h3 h4 ey => zT_ne ?_)
  have p := q n t h0 ex h2 ey ⟨h3, h4⟩
  subst ex ey
  exact mbt_first h2 h4 (by omega) hk wf.1 wf.2 (g 1) 0 mem _ _ _ _ _ (by omega) hr (fun f' hf' => by omega) p
end MB
