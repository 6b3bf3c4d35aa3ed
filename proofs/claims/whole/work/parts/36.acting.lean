/-! DishLift: undo, pull, rope, room, send, minutes -/
theorem zWF.s2 {g : zH} (w : zWF g) {v : Nat} (hv : 1 ≤ v ∧ v ≤ 4) : zWF (va_up g 2 v) := by
  have n : ∀ j, j ≠ 2 → va_up g 2 v j = g j := fun j hj => zup_ne hj
  obtain ⟨c0, c1, c2, c3, c4, c5, c6, c7, c8⟩ := w
  refine ⟨by rw [n _ (by omega)]; exact c0, by rw [n _ (by omega)]; exact c1, by rw [n _ (by omega)]; exact c2, by rw [zup_eq]; exact hv, by rw [n _ (by omega)]; exact c4, by rw [n _ (by omega), n _ (by omega)]; exact c5, by rw [n _ (by omega)]; exact c6, by rw [n _ (by omega)]; exact c7, fun e he => ?_⟩
  rw [n _ (by omega)] at he
  rw [n _ (by omega), n _ (by omega), n _ (by omega), n _ (by omega), n _ (by omega), n _ (by omega)]
  exact c8 e he
theorem zWF.s3 {g : zH} (w : zWF g) {v : Nat} (hv : 1 ≤ v ∧ v ≤ 40) : zWF (va_up g 3 v) := by
  have n : ∀ j, j ≠ 3 → va_up g 3 v j = g j := fun j hj => zup_ne hj
  obtain ⟨c0, c1, c2, c3, c4, c5, c6, c7, c8⟩ := w
  refine ⟨by rw [n _ (by omega)]; exact c0, by rw [n _ (by omega)]; exact c1, by rw [n _ (by omega)]; exact c2, by rw [n _ (by omega)]; exact c3, by rw [zup_eq]; exact hv, by rw [n _ (by omega), n _ (by omega)]; exact c5, by rw [n _ (by omega)]; exact c6, by rw [n _ (by omega)]; exact c7, fun e he => ?_⟩
  rw [n _ (by omega)] at he
  rw [n _ (by omega), n _ (by omega), n _ (by omega), n _ (by omega), n _ (by omega), n _ (by omega)]
  exact c8 e he
/-- a house of the class, now: it stands, or nothing was told -/
def zNow (g : zH) : Prop := (zWF g ∧ 1 ≤ g 0 ∧ g 6 ≤ 999) ∨ ∀ k, k < 7 → g k = 0
theorem zNow.le {g : zH} (h : zNow g) : g 0 ≤ 6 ∧ g 1 ≤ 9 := by
  rcases h with ⟨w, -⟩ | z
  · exact ⟨w.1, w.2.2.1⟩
  · rw [z 0 (by omega), z 1 (by omega)]; omega
theorem zNow.wf {g : zH} (h : zNow g) (h0 : 0 < g 0) : zWF g ∧ g 6 ≤ 999 := by
  rcases h with ⟨w, -, w6⟩ | z
  · exact ⟨w, w6⟩
  · rw [z 0 (by omega)] at h0; omega
theorem zNow.wf1 {g : zH} (h : zNow g) (h0 : 0 < g 1) : zWF g ∧ g 6 ≤ 999 ∧ 1 ≤ g 0 := by
  rcases h with ⟨w, w0, w6⟩ | z
  · exact ⟨w, w6, w0⟩
  · rw [z 1 (by omega)] at h0; omega
/-- the house now, and what may be undone -/
def zCN (mem : zMem) (lk : zLk) (L : List Nat) (nx u : Nat) (g : zH) (gs : Nat → zH) : Prop := zKs lk ∧ zHo lk 10000 ∧ zHB mem 10000 g ∧ zActs mem lk L nx u gs
/-- what the acts leave as it is -/
def zafr (mem mem' : zMem) : Prop := ∀ x, ¬ (661 ≤ x ∧ x ≤ 662) → ¬ (10320 ≤ x ∧ x < 11856) → ¬ (10000 ≤ x ∧ x < 10037) → mem' x = mem x
theorem zafr.rf {mem : zMem} : zafr mem mem := fun _ _ _ _ => rfl
theorem zafr.tr {m1 m2 m3 : zMem} (h : zafr m1 m2) (h' : zafr m2 m3) : zafr m1 m3 := fun x a b c => (h' x a b c).trans (h x a b c)
theorem zkfr.a {mem mem' : zMem} (h : zkfr mem mem') : zafr mem mem' := fun x a b _ => h x a b
theorem zfr.a {mem mem' : zMem} (h : zfr mem mem' 10000) : zafr mem mem' := fun x _ _ c => h x c
theorem zKl_lt : ∀ p, p ∈ zKl → (p.1 < 670 ∨ 694 ≤ p.1) ∧ p.1 < 10000 := by decide
theorem zKs.kp {lk : zLk} {nx : Nat} (h : zKs lk) (hn : nx < 24) : zKs (kpK nx lk) :=
  ⟨fun p hp => by have := zKl_lt p hp; rw [kpK_ne (by omega) (by unfold zAH; omega)]; exact h.1 p hp, fun k hk => by rw [kpK_ne (by omega) (by unfold zAH; omega)]; exact h.2 k hk⟩
theorem zHo.kp {lk : zLk} {nx : Nat} (h : zHo lk 10000) (hn : nx < 24) : zHo (kpK nx lk) 10000 := h.lb (b := 0) (fun x h1 h2 => kpK_ne (by omega) (by unfold zAH; omega))
theorem zActs.fr {mem mem' : zMem} {lk : zLk} {L : List Nat} {nx u : Nat} {gs : Nat → zH} (A : zActs mem lk L nx u gs) (hf : zfr mem mem' 10000) : zActs mem' lk L nx u gs := by
  obtain ⟨a1, a2, a3, a4, a5, a6, a7, a8⟩ := A
  refine ⟨a1, a2, by rw [hf _ (by omega)]; exact a3, by rw [hf _ (by omega)]; exact a4, a5, a6, a7, fun k hk => ?_⟩
  obtain ⟨b1, b2, b3⟩ := a8 k hk
  exact ⟨b1, b2.same b3.1 (fun j hj => hf _ (by unfold zAH; omega)), b3⟩
theorem zpass_ne {ord : Nat → Nat} {g : zH} (h6 : g 0 ≤ 6) {j : Nat} (hj : j < 13 ∨ 19 ≤ j ∧ j < 25) (h4 : j ≠ 4) (h5 : j ≠ 5) (hj6 : j ≠ 6) : zpass ord g j = g j := by
  have l0 : zlets g (g 0) 0 = g 0 := zlets_ne (by omega) _ h6
  unfold zpass
  rw [zup_ne hj6, zages_0 (by omega), zmove_ne h4 h5, ztakes_ne (by omega) (by omega), zlets_ne (by omega) _ h6]
theorem zpass_6 {ord : Nat → Nat} {g : zH} (h6 : g 0 ≤ 6) : zpass ord g 6 = g 6 + 1 := by
  have l0 : zlets g (g 0) 0 = g 0 := zlets_ne (by omega) _ h6
  unfold zpass
  rw [zup_eq, zages_0 (by omega), zmove_ne (by omega) (by omega), ztakes_ne (by omega) (by omega), zlets_ne (by omega) _ h6]
theorem zpass_wf {ord : Nat → Nat} {g : zH} (w : zWF g) (h6 : g 6 ≤ 1000000) : zWF (zpass ord g) := by
  have l0 : zlets g (g 0) 0 = g 0 := zlets_ne (by omega) _ w.1
  have w0 := w.1
  have wl := zlets_wf w (g 0) w.1
  have wt := ztakes_wf (ord := ord) wl (g 0)
  have wm := zmove_wf wt
  have m0 : zmove (ztakes ord (zlets g (g 0)) (g 0)) 0 = g 0 := by rw [zmove_ne (by omega) (by omega), ztakes_ne (by omega) (by omega), zlets_ne (by omega) _ w.1]
  have m6 : zmove (ztakes ord (zlets g (g 0)) (g 0)) 6 = g 6 := by rw [zmove_ne (by omega) (by omega), ztakes_ne (by omega) (by omega), zlets_ne (by omega) _ w.1]
  unfold zpass
  refine (zages_wf wm (g 0) (by omega)).s6 ?_
  rw [zages_0 (by omega), m6]
  omega
section DA
variable {X d : Nat} {mem : zMem} {lk lkf : zLk} {L Lf : List Nat} {Q : Option Value → zMem → Prop} {g : zH} {nx u : Nat} {gs : Nat → zH}
theorem ok_undo (hd : 2 < d) (C : zCN mem lk L nx u g gs) (q0 : u = 0 → Q (some (.int (-(nI 1000002)))) mem)
    (q : u ≠ 0 → ∀ mem', zCN mem' lk L ((nx + 23) % 24) (u - 1) (gs 0) (fun k => gs (k + 1)) → zafr mem mem' → Q (some (.int (nI (u - 1)))) mem') : zOk X d 98 [.ref 100] mem lk L lk L Q := by
  obtain ⟨hk, hh, hb, A⟩ := C
  refine zOk_do 40 (tbl := tX7_undo) zck_98 rfl (by omega) (h := ?_)
  refine ⟨rfl, _, hk.at 104 660, rfl, ok_isEmpty (by omega) A (fun z => zT_eq ⟨rfl, rfl, q0 z⟩) (fun z => zF_eq ⟨rfl, _, hk.at 104 660, rfl, _, hk.at 102 10000, rfl, ?_⟩)⟩
  exact ok_takeBack (by omega) hh A z (fun m1 A1 hb1 f1 => ⟨rfl, rfl, q z m1 ⟨hk, hh, hb1, A1⟩ (fun x a _ c => f1 x a c)⟩)
theorem ok_pull {x : Int32} (hd : 2 < d) (C : zCN mem lk L nx u g gs) (hN : zNow g) (hlen : L.length ≤ Lf.length)
    (qB : (x.toInt < 0 ∨ (g 1 : Int) ≤ x.toInt) → lk = lkf ∧ L = Lf ∧ Q (some (.int (-(nI 1000001)))) mem)
    (qS : ∀ e, e < g 1 → x = nI e → g 4 = e → lk = lkf ∧ L = Lf ∧ Q (some (.int (-(nI 1000002)))) mem)
    (qG : ∀ e, e < g 1 → x = nI e → g 4 ≠ e → (lkf = kpK nx lk ∧ Lf = kpL nx lk L) ∧ ∀ mem', zCN mem' lkf Lf ((nx + 1) % 24) (if u < 24 then u + 1 else 24) (va_up g 4 e) (zpsh g gs) → zafr mem mem' → Q (some (.int (nI (g 4)))) mem') : zOk X d 100 [.ref 100, .int x] mem lk L lkf Lf Q := by
  obtain ⟨hk, hh, hb, A⟩ := C
  have e4 : mem (10000 + 4) = nI (g 4) := hb.k 4 (by omega)
  refine zOk_goc [] 60 (tbl := tX7_pull) zck_100 rfl (by omega) hlen (h := ?_)
  refine ⟨rfl, _, hk.at 102 10000, by rw [hh.k3]; rfl, ok_isFloor (by omega) hh hb hN.le.2 (fun e he ex => zT_ne ?_) (fun c => zF_ne (qB c))⟩
  have hw := hN.wf1 (by omega)
  have w4 := hw.1.2.2.2.2.2.1
  have w1 := hw.1.2.2.1
  subst ex
  refine ⟨rfl, _, hk.at 102 10000, hh.k3, fun c => ?_, fun c => ?_⟩
  · have c : ¬ mem (10000 + 4) = nI e := c
    rw [e4, nEq (by omega) (by omega)] at c
    obtain ⟨⟨q1, q2⟩, q3⟩ := qG e he rfl c
    subst q1 q2
    refine ⟨rfl, _, hk.at 104 660, rfl, _, hk.at 102 10000, rfl, _, _, Nat.le_refl _, kpL_le nx lk L, ok_keep (by omega) hh hb hw.1 A (fun m1 A1 f1 => ?_)⟩
    have hk1 := hk.kp A.1
    have hh1 : zHo (kpK nx lk) 10000 := hh.kp A.1
    have hb1 : zHB m1 10000 g := hb.same hw.1.1 (fun j hj => f1 _ (by omega) (by omega))
    have e41 : m1 (10000 + 4) = nI (g 4) := hb1.k 4 (by omega)
    refine ⟨rfl, _, hk1.at 102 10000, hh1.k3, rfl, _, hk1.at 102 10000, hh1.k3, rfl, rfl, ?_⟩
    show Q (some (.int (m1 (10000 + 4)))) (upd m1 (10000 + 4) (nI e))
    rw [e41]
    exact q3 _ ⟨hk1, hh1, hb1.set 4 e (by omega) rfl, A1.fr (zfr.up (by omega) (by omega))⟩ (f1.a.tr (zfr.a (zfr.up (by omega) (by omega))))
  · have c : mem (10000 + 4) = nI e := c
    rw [e4, nEq (by omega) (by omega)] at c
    exact qS e he rfl c
theorem ok_rope {x : Int32} (hd : 2 < d) (C : zCN mem lk L nx u g gs) (hN : zNow g) (hlen : L.length ≤ Lf.length)
    (qS : g 0 = 0 → lk = lkf ∧ L = Lf ∧ Q (some (.int (-(nI 1000002)))) mem)
    (qB : 0 < g 0 → (x.toInt < 1 ∨ 40 < x.toInt) → lk = lkf ∧ L = Lf ∧ Q (some (.int (-(nI 1000001)))) mem)
    (qG : ∀ e, 0 < g 0 → x = nI e → 1 ≤ e ∧ e ≤ 40 → (lkf = kpK nx lk ∧ Lf = kpL nx lk L) ∧ ∀ mem', zCN mem' lkf Lf ((nx + 1) % 24) (if u < 24 then u + 1 else 24) (va_up g 3 e) (zpsh g gs) → zafr mem mem' → Q (some (.int (nI (g 3)))) mem') : zOk X d 101 [.ref 100, .int x] mem lk L lkf Lf Q := by
  obtain ⟨hk, hh, hb, A⟩ := C
  have n1 : (nI 1).toInt = 1 := nT (by omega)
  have n40 : (nI 40).toInt = 40 := nT (by omega)
  refine zOk_goc [] 60 (tbl := tX7_rope) zck_101 rfl (by omega) hlen (h := ?_)
  refine ⟨rfl, _, hk.at 102 10000, by rw [hh.k3]; rfl, ok_stands (by omega) hh hb hN.le.1 (fun h0 => zT_ne ?_) (fun h0 => zF_ne (qS h0))⟩
  have hw := hN.wf h0
  refine ⟨fun c => qB h0 (Or.inl ?_), fun c => ⟨fun c2 => ?_, fun c2 => qB h0 (Or.inr ?_)⟩⟩
  · have c : x < nI 1 := c
    rw [i_lt, n1] at c; exact c
  · have c : ¬ x < nI 1 := c
    have c2 : x ≤ nI 40 := c2
    rw [i_lt, n1] at c
    rw [i_le, n40] at c2
    rcases zix x (n := 41) (by omega) with ⟨e, he, ex⟩ | z
    · have hx : x.toInt = e := by rw [ex]; exact nT (by omega)
      obtain ⟨⟨q1, q2⟩, q3⟩ := qG e h0 ex (by omega)
      subst q1 q2 ex
      refine ⟨rfl, _, hk.at 104 660, rfl, _, hk.at 102 10000, rfl, _, _, Nat.le_refl _, kpL_le nx lk L, ok_keep (by omega) hh hb hw.1 A (fun m1 A1 f1 => ?_)⟩
      have hk1 := hk.kp A.1
      have hh1 : zHo (kpK nx lk) 10000 := hh.kp A.1
      have hb1 : zHB m1 10000 g := hb.same hw.1.1 (fun j hj => f1 _ (by omega) (by omega))
      have e41 : m1 (10000 + 3) = nI (g 3) := hb1.k 3 (by omega)
      refine ⟨rfl, _, hk1.at 102 10000, hh1.k3, rfl, _, hk1.at 102 10000, hh1.k3, rfl, rfl, ?_⟩
      show Q (some (.int (m1 (10000 + 3)))) (upd m1 (10000 + 3) (nI e))
      rw [e41]
      exact q3 _ ⟨hk1, hh1, hb1.set 3 e (by omega) rfl, A1.fr (zfr.up (by omega) (by omega))⟩ (f1.a.tr (zfr.a (zfr.up (by omega) (by omega))))
    · omega
  · have c2 : ¬ x ≤ nI 40 := c2
    rw [i_le, n40] at c2; omega
theorem ok_room {x : Int32} (hd : 2 < d) (C : zCN mem lk L nx u g gs) (hN : zNow g) (hlen : L.length ≤ Lf.length)
    (qS : g 0 = 0 → lk = lkf ∧ L = Lf ∧ Q (some (.int (-(nI 1000002)))) mem)
    (qB : 0 < g 0 → (x.toInt < 1 ∨ 4 < x.toInt) → lk = lkf ∧ L = Lf ∧ Q (some (.int (-(nI 1000001)))) mem)
    (qG : ∀ e, 0 < g 0 → x = nI e → 1 ≤ e ∧ e ≤ 4 → (lkf = kpK nx lk ∧ Lf = kpL nx lk L) ∧ ∀ mem', zCN mem' lkf Lf ((nx + 1) % 24) (if u < 24 then u + 1 else 24) (va_up g 2 e) (zpsh g gs) → zafr mem mem' → Q (some (.int (nI (g 2)))) mem') : zOk X d 102 [.ref 100, .int x] mem lk L lkf Lf Q := by
  obtain ⟨hk, hh, hb, A⟩ := C
  have n1 : (nI 1).toInt = 1 := nT (by omega)
  have n40 : (nI 4).toInt = 4 := nT (by omega)
  refine zOk_goc [] 60 (tbl := tX7_room) zck_102 rfl (by omega) hlen (h := ?_)
  refine ⟨rfl, _, hk.at 102 10000, by rw [hh.k3]; rfl, ok_stands (by omega) hh hb hN.le.1 (fun h0 => zT_ne ?_) (fun h0 => zF_ne (qS h0))⟩
  have hw := hN.wf h0
  refine ⟨fun c => qB h0 (Or.inl ?_), fun c => ⟨fun c2 => ?_, fun c2 => qB h0 (Or.inr ?_)⟩⟩
  · have c : x < nI 1 := c
    rw [i_lt, n1] at c; exact c
  · have c : ¬ x < nI 1 := c
    have c2 : x ≤ nI 4 := c2
    rw [i_lt, n1] at c
    rw [i_le, n40] at c2
    rcases zix x (n := 5) (by omega) with ⟨e, he, ex⟩ | z
    · have hx : x.toInt = e := by rw [ex]; exact nT (by omega)
      obtain ⟨⟨q1, q2⟩, q3⟩ := qG e h0 ex (by omega)
      subst q1 q2 ex
      refine ⟨rfl, _, hk.at 104 660, rfl, _, hk.at 102 10000, rfl, _, _, Nat.le_refl _, kpL_le nx lk L, ok_keep (by omega) hh hb hw.1 A (fun m1 A1 f1 => ?_)⟩
      have hk1 := hk.kp A.1
      have hh1 : zHo (kpK nx lk) 10000 := hh.kp A.1
      have hb1 : zHB m1 10000 g := hb.same hw.1.1 (fun j hj => f1 _ (by omega) (by omega))
      have e41 : m1 (10000 + 2) = nI (g 2) := hb1.k 2 (by omega)
      refine ⟨rfl, _, hk1.at 102 10000, hh1.k3, rfl, _, hk1.at 102 10000, hh1.k3, rfl, rfl, ?_⟩
      show Q (some (.int (m1 (10000 + 2)))) (upd m1 (10000 + 2) (nI e))
      rw [e41]
      exact q3 _ ⟨hk1, hh1, hb1.set 2 e (by omega) rfl, A1.fr (zfr.up (by omega) (by omega))⟩ (f1.a.tr (zfr.a (zfr.up (by omega) (by omega))))
    · omega
  · have c2 : ¬ x ≤ nI 4 := c2
    rw [i_le, n40] at c2; omega
end DA
