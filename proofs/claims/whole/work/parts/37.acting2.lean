/-! DishLift: send, minutes -/
theorem zsend_wf {g : zH} (w : zWF g) {e t ht : Nat} (he : e < g 0) (h1 : t < g 1) (h2 : ht ≤ 60) : zWF (zsend g e t ht) := by
  have w0 := w.1
  unfold zsend
  refine ((w.sAt (by omega) (Or.inl (w.2.2.2.2.2.2.2.2 e he).2.2.1)).sTo (by omega) ?_).sHt (by omega) h2
  rw [zup_ne (by omega)]; exact h1
theorem zsend_ne {g : zH} {e t ht j : Nat} (h1 : j ≠ 13 + e) (h2 : j ≠ 19 + e) (h3 : j ≠ 31 + e) : zsend g e t ht j = g j := by
  unfold zsend; rw [zup_ne h3, zup_ne h2, zup_ne h1]
theorem zSt.ord {X : Nat} {mem : zMem} (h : zSt mem) {b : Nat} (hb : 10000 ≤ b) : zOrd X mem 4000 (fun e => e) b :=
  ⟨Or.inr rfl, rfl, fun k hk => ⟨h.1 k hk, hk⟩, Or.inl (by omega)⟩
/-- what some minutes make of all -/
def mnK : Nat → Nat → zLk → zLk
  | 0, _, lk => lk
  | m + 1, nx, lk => mnK m ((nx + 1) % 24) (kpK nx lk)
def mnL : Nat → Nat → zLk → List Nat → List Nat
  | 0, _, _, L => L
  | m + 1, nx, lk, L => mnL m ((nx + 1) % 24) (kpK nx lk) (kpL nx lk L)
def mnX : Nat → Nat → Nat
  | 0, nx => nx
  | m + 1, nx => mnX m ((nx + 1) % 24)
def mnU : Nat → Nat → Nat
  | 0, u => u
  | m + 1, u => mnU m (if u < 24 then u + 1 else 24)
def mnG : Nat → zH → zH
  | 0, g => g
  | m + 1, g => mnG m (zpass (fun e => e) g)
def mnS : Nat → zH → (Nat → zH) → Nat → zH
  | 0, _, gs => gs
  | m + 1, g, gs => mnS m (zpass (fun e => e) g) (zpsh g gs)
theorem mnL_le : ∀ m nx lk L, L.length ≤ (mnL m nx lk L).length
  | 0, _, _, L => Nat.le_refl _
  | m + 1, nx, lk, L => Nat.le_trans (kpL_le nx lk L) (mnL_le m _ _ _)
theorem mnG_wf : ∀ m g, zWF g → g 6 + m ≤ 999999 → zWF (mnG m g) ∧ mnG m g 0 = g 0 ∧ mnG m g 6 = g 6 + m
  | 0, g, w, _ => ⟨w, rfl, rfl⟩
  | m + 1, g, w, h => by
    have h6 : zpass (fun e => e) g 6 = g 6 + 1 := zpass_6 w.1
    obtain ⟨a, b, c⟩ := mnG_wf m (zpass (fun e => e) g) (zpass_wf w (by omega)) (by omega)
    exact ⟨a, by show mnG m _ 0 = _; rw [b]; exact zpass_ne w.1 (by omega) (by omega) (by omega) (by omega), by show mnG m _ 6 = _; rw [c, h6]; omega⟩
section DA
variable {X d : Nat} {mem : zMem} {lk lkf : zLk} {L Lf : List Nat} {Q : Option Value → zMem → Prop} {g : zH} {nx u : Nat} {gs : Nat → zH}
/-- what is wrong with what is sent -/
def zBadSend (g : zH) (x y z : Int32) : Prop := (x.toInt < 0 ∨ (g 0 : Int) ≤ x.toInt) ∨ (y.toInt < 0 ∨ (g 1 : Int) ≤ y.toInt) ∨ z.toInt < 0 ∨ 60 < z.toInt
theorem ok_send {x y z : Int32} (hd : 3 < d) (C : zCN mem lk L nx u g gs) (hN : zNow g) (hlen : L.length ≤ Lf.length)
    (qB : zBadSend g x y z → lk = lkf ∧ L = Lf ∧ Q (some (.int (-(nI 1000001)))) mem)
    (qS : ∀ e t h, e < g 0 → t < g 1 → h ≤ 60 → x = nI e → y = nI t → z = nI h → (g (13 + e) ≠ 11 ∨ g (19 + e) = t) → lk = lkf ∧ L = Lf ∧ Q (some (.int (-(nI 1000002)))) mem)
    (qG : ∀ e t h, e < g 0 → t < g 1 → h ≤ 60 → x = nI e → y = nI t → z = nI h → g (13 + e) = 11 → g (19 + e) ≠ t → (lkf = kpK nx lk ∧ Lf = kpL nx lk L) ∧ ∀ mem', zCN mem' lkf Lf ((nx + 1) % 24) (if u < 24 then u + 1 else 24) (zsend g e t h) (zpsh g gs) → zafr mem mem' → Q (some (.int (nI (zbits (zsend g e t h) 11 (g 0))))) mem') : zOk X d 103 [.ref 100, .int x, .int y, .int z] mem lk L lkf Lf Q := by
  obtain ⟨hk, hh, hb, A⟩ := C
  have n60 : (nI 60).toInt = 60 := nT (by omega)
  refine zOk_goc [] 80 (tbl := tX7_send) zck_103 rfl (by omega) hlen (h := ?_)
  refine ⟨rfl, _, hk.at 102 10000, by rw [hh.k3]; rfl, ok_isDish (by omega) hh hb hN.le.1 (fun e he ex => zT_eq ?_) (fun c => zF_eq (qB (Or.inl c)))⟩
  have hw := hN.wf (by omega)
  have w0 := hw.1.1
  have w1 := hw.1.2.2.1
  have w11 := hw.1.at11 e he
  obtain ⟨-, -, wt, -, -⟩ := hw.1.2.2.2.2.2.2.2.2 e he
  refine ⟨rfl, _, hk.at 102 10000, by rw [hh.k3]; rfl, ok_isFloor (by omega) hh hb hN.le.2 (fun t ht ey => zT_eq ?_) (fun c => zF_eq (qB (Or.inr (Or.inl c))))⟩
  refine ⟨fun c => qB (Or.inr (Or.inr (Or.inl ?_))), fun c => ⟨fun c2 => ?_, fun c2 => qB (Or.inr (Or.inr (Or.inr ?_)))⟩⟩
  · have c : z < 0 := c
    rw [i_lt, i_0] at c; exact c
  · have c : ¬ z < 0 := c
    have c2 : z ≤ nI 60 := c2
    rw [i_lt, i_0] at c
    rw [i_le, n60] at c2
    obtain ⟨h, hh60, ez⟩ : ∃ h, h ≤ 60 ∧ z = nI h := by
      rcases zix z (n := 61) (by omega) with ⟨j, hj, e⟩ | q
      · exact ⟨j, by omega, e⟩
      · omega
    subst ex ey ez
    have ea : mem (10000 + (7 + 6 * 1) + (nI e).toNatClampNeg) = nI (g (13 + e)) := by rw [nC (by omega)]; exact hb.at he
    have eb : mem (10000 + (7 + 6 * 2) + (nI e).toNatClampNeg) = nI (g (19 + e)) := by rw [nC (by omega)]; exact hb.to he
    refine ⟨rfl, _, hk.at 102 10000, hh.k3, _, hh.lk 1 (by omega), Or.inl (hh.ka 1 (by omega)), hh.inn (by omega), fun c3 => ?_, fun c3 => ⟨rfl, _, hk.at 102 10000, hh.k3, _, hh.lk 2 (by omega), Or.inl (hh.ka 2 (by omega)), hh.inn (by omega), fun c4 => ?_, fun c4 => ?_⟩⟩
    · have c3 : ¬ mem (10000 + (7 + 6 * 1) + (nI e).toNatClampNeg) = nI 11 := c3
      rw [ea, nEq (by omega) (by omega)] at c3
      exact qS e t h he ht hh60 rfl rfl rfl (Or.inl c3)
    · have c3 : mem (10000 + (7 + 6 * 1) + (nI e).toNatClampNeg) = nI 11 := c3
      have c4 : ¬ mem (10000 + (7 + 6 * 2) + (nI e).toNatClampNeg) = nI t := c4
      rw [ea, nEq (by omega) (by omega)] at c3
      rw [eb, nEq (by omega) (by omega)] at c4
      obtain ⟨⟨q1, q2⟩, q3⟩ := qG e t h he ht hh60 rfl rfl rfl c3 c4
      subst q1 q2
      refine ⟨rfl, _, hk.at 104 660, rfl, _, hk.at 102 10000, rfl, _, _, Nat.le_refl _, kpL_le nx lk L, ok_keep (by omega) hh hb hw.1 A (fun m1 A1 f1 => ?_)⟩
      have hk1 := hk.kp A.1
      have hh1 : zHo (kpK nx lk) 10000 := hh.kp A.1
      have hb1 : zHB m1 10000 g := hb.same hw.1.1 (fun j hj => f1 _ (by omega) (by omega))
      have ws := zsend_wf hw.1 he ht hh60
      have s0 : zsend g e t h 0 = g 0 := zsend_ne (by omega) (by omega) (by omega)
      refine ⟨rfl, _, hk1.at 102 10000, by rw [hh1.k3]; rfl, ok_sendBack (by omega) hh1 hb1 hw.1 he (fun m2 hb2 f2 => ⟨rfl, _, hk1.at 102 10000, by rw [hh1.k3]; rfl, ok_served (by omega) hh1 hb2 (by omega) ws.at11 ⟨rfl, rfl, ?_⟩⟩)⟩
      rw [s0]
      exact q3 _ ⟨hk1, hh1, hb2, A1.fr f2⟩ (f1.a.tr f2.a)
    · have c3 : mem (10000 + (7 + 6 * 1) + (nI e).toNatClampNeg) = nI 11 := c3
      have c4 : mem (10000 + (7 + 6 * 2) + (nI e).toNatClampNeg) = nI t := c4
      rw [eb, nEq (by omega) (by omega)] at c4
      exact qS e t h he ht hh60 rfl rfl rfl (Or.inr c4)
  · have c2 : ¬ z ≤ nI 60 := c2
    rw [i_le, n60] at c2; omega
theorem minutes_loop {n : Nat} (hn : n ≤ 24) (hd : 4 < d) : ∀ m i nx u g gs lk L mem, i + m = n → zCN mem lk L nx u g gs → zWF g → g 6 + m ≤ 999999 → zSt mem →
    (∀ mem', zCN mem' (mnK m nx lk) (mnL m nx lk L) (mnX m nx) (mnU m u) (mnG m g) (mnS m g gs) → zafr mem mem' → Q (some (.int (nI (zbits (mnG m g) 11 (g 0))))) mem') → zE X d 99 47 [.ref 100, .int (nI n), .int (nI i)] [] mem lk L (mnK m nx lk) (mnL m nx lk L) Q := by
  intro m
  induction m with
  | zero =>
    intro i nx u g gs lk L mem hi C wf h6 hS q
    have c1 : nI n ≤ nI i := by rw [nLe (by omega) (by omega)]; omega
    obtain ⟨hk, hh, hb, A⟩ := C
    refine zE_do 40 47 (tbl := tX7_minutes) zck_99 rfl (h := ?_)
    refine ⟨fun _ => ⟨rfl, _, hk.at 102 10000, by rw [hh.k3]; rfl, ok_served (by omega) hh hb wf.1 wf.at11 ⟨rfl, rfl, q mem ⟨hk, hh, hb, A⟩ zafr.rf⟩⟩, fun c => absurd c1 c⟩
  | succ m ih =>
    intro i nx u g gs lk L mem hi C wf h6 hS q
    have c1 : ¬ nI n ≤ nI i := by rw [nLe (by omega) (by omega)]; omega
    obtain ⟨hk, hh, hb, A⟩ := C
    refine zE_do 40 47 (tbl := tX7_minutes) zck_99 rfl (h := ?_)
    refine ⟨fun c => absurd c c1, fun _ => ⟨rfl, _, hk.at 104 660, rfl, _, hk.at 102 10000, rfl, kpK nx lk, kpL nx lk L, mnL_le m _ _ _, kpL_le nx lk L, ok_keep (by omega) hh hb wf A (fun m1 A1 f1 => ?_)⟩⟩
    have hk1 := hk.kp A.1
    have hh1 : zHo (kpK nx lk) 10000 := hh.kp A.1
    have hb1 : zHB m1 10000 g := hb.same wf.1 (fun j hj => f1 _ (by omega) (by omega))
    have hS1 : zSt m1 := ⟨fun i hi => by rw [f1 _ (by omega) (by omega)]; exact hS.1 i hi, fun i hi => by rw [f1 _ (by omega) (by omega)]; exact hS.2.1 i hi, fun i hi => by rw [f1 _ (by omega) (by omega)]; exact hS.2.2.1 i hi, fun i hi => by rw [f1 _ (by omega) (by omega)]; exact hS.2.2.2 i hi⟩
    refine ⟨rfl, _, hk1.at 102 10000, by rw [hh1.k3]; rfl, ok_pass (by omega) hh1 hb1 wf (by omega) (hS1.ord (Nat.le_refl _)) (fun m2 hb2 f2 => ?_)⟩
    have h61 : zpass (fun e => e) g 6 = g 6 + 1 := zpass_6 wf.1
    have h01 : zpass (fun e => e) g 0 = g 0 := zpass_ne wf.1 (by omega) (by omega) (by omega) (by omega)
    have k := ih (i + 1) ((nx + 1) % 24) (if u < 24 then u + 1 else 24) (zpass (fun e => e) g) (zpsh g gs) (kpK nx lk) (kpL nx lk L) m2 (by omega) ⟨hk1, hh1, hb2, A1.fr f2⟩ (zpass_wf wf (by omega)) (by omega) (hS1.fr f2 (Or.inl (Nat.le_refl _))) (fun m3 C3 f3 => by rw [h01]; exact q m3 C3 ((f1.a.tr f2.a).tr f3))
    rw [← nI_1] at k
    exact k
theorem ok_minutes {x : Int32} (hd : 4 < d) (C : zCN mem lk L nx u g gs) (hN : zNow g) (hS : zSt mem) (hlen : L.length ≤ Lf.length)
    (qS : g 0 = 0 → lk = lkf ∧ L = Lf ∧ Q (some (.int (-(nI 1000002)))) mem)
    (qB : 0 < g 0 → (x.toInt < 1 ∨ 24 < x.toInt) → lk = lkf ∧ L = Lf ∧ Q (some (.int (-(nI 1000001)))) mem)
    (qF : ∀ n, 0 < g 0 → x = nI n → 1 ≤ n ∧ n ≤ 24 → 999 < g 6 + n → lk = lkf ∧ L = Lf ∧ Q (some (.int (-(nI 1000003)))) mem)
    (qG : ∀ n, 0 < g 0 → x = nI n → 1 ≤ n ∧ n ≤ 24 → g 6 + n ≤ 999 → (lkf = mnK n nx lk ∧ Lf = mnL n nx lk L) ∧ ∀ mem', zCN mem' lkf Lf (mnX n nx) (mnU n u) (mnG n g) (mnS n g gs) → zafr mem mem' → Q (some (.int (nI (zbits (mnG n g) 11 (g 0))))) mem') : zOk X d 99 [.ref 100, .int x] mem lk L lkf Lf Q := by
  have C' := C
  obtain ⟨hk, hh, hb, A⟩ := C
  have n1 : (nI 1).toInt = 1 := nT (by omega)
  have n24 : (nI 24).toInt = 24 := nT (by omega)
  have e6 : mem (10000 + 6) = nI (g 6) := hb.k 6 (by omega)
  refine zOk_goc [] 60 (tbl := tX7_minutes) zck_99 rfl (by omega) hlen (h := ?_)
  refine ⟨rfl, _, hk.at 102 10000, by rw [hh.k3]; rfl, ok_stands (by omega) hh hb hN.le.1 (fun h0 => zT_ne ?_) (fun h0 => zF_ne (qS h0))⟩
  have hw := hN.wf h0
  refine ⟨fun c => qB h0 (Or.inl ?_), fun c => ⟨fun c2 => ?_, fun c2 => qB h0 (Or.inr ?_)⟩⟩
  · have c : x < nI 1 := c
    rw [i_lt, n1] at c; exact c
  · have c : ¬ x < nI 1 := c
    have c2 : x ≤ nI 24 := c2
    rw [i_lt, n1] at c
    rw [i_le, n24] at c2
    rcases zix x (n := 25) (by omega) with ⟨n, hn, ex⟩ | z
    · have hx : x.toInt = n := by rw [ex]; exact nT (by omega)
      refine ⟨rfl, _, hk.at 102 10000, hh.k3, fun c3 => ?_, fun c3 => ?_⟩
      · have c3 : mem (10000 + 6) + x ≤ nI 999 := c3
        rw [e6, ex, nI_add, nLe (by omega) (by omega)] at c3
        obtain ⟨⟨q1, q2⟩, q3⟩ := qG n h0 ex (by omega) c3
        subst q1 q2 ex
        exact minutes_loop (by omega) hd n 0 nx u g gs lk L mem (by omega) C' hw.1 (by omega) hS q3
      · have c3 : ¬ mem (10000 + 6) + x ≤ nI 999 := c3
        rw [e6, ex, nI_add, nLe (by omega) (by omega)] at c3
        exact qF n h0 ex (by omega) (by omega)
    · omega
  · have c2 : ¬ x ≤ nI 24 := c2
    rw [i_le, n24] at c2; omega
end DA
