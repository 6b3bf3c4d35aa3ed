/-! drawn -/
theorem cmp_eq (x z : Int64) : lg_cmp x z = 0 ↔ x.toInt = z.toInt := by
  have h1 := cmp_lt x z
  have h2 := cmp_gt x z
  rw [i_lt, i_0] at h1 h2
  constructor
  · intro h
    rw [h, i_0] at h1 h2
    omega
  · intro h
    apply Int32.toInt_inj.mp
    rw [i_0]
    omega
def zdx (x : Nat) : Nat := x * 16807 % 2147483647
/-- what is drawn of a day ahead of its minute; x is drawn -/
def zd1 (x : Nat) (g : zH) : zH := if g (13 + x % g 0) = 11 then zsend g (x % g 0) (x % g 1) (x % 61) else if x % 4 = 0 then va_up g 4 (x % g 1) else g
def zdG : Nat → Nat → zH → zH
  | 0, _, g => g
  | m + 1, x, g => zdG m (zdx x) (zpass (fun e => e) (zd1 (zdx x) g))
def zdC : Nat → Nat → zH → Nat
  | 0, _, _ => 0
  | m + 1, x, g => zpc (zan (zbits (zpass (fun e => e) (zd1 (zdx x) g)) 11 (g 0)) (zbits (zd1 (zdx x) g) 11 (g 0))) + zdC m (zdx x) (zpass (fun e => e) (zd1 (zdx x) g))
theorem zdx_lt (x : Nat) : zdx x < 2147483647 := Nat.mod_lt _ (by omega)
theorem zdx_l {x : Nat} (h : x < 2147483648) : lN x * lN 16807 - lN x * lN 16807 / lN 2147483647 * lN 2147483647 = lN (zdx x) := by
  rw [lN_mul]
  exact pk_lRem (by omega) (by omega) (by omega)
theorem zlr {x n : Nat} (hx : x < 2147483648) (hn : 0 < n) (h2 : n < 2147483648) : (lN x - lN x / lN n * lN n).toInt32 = nI (x % n) := by
  rw [pk_lRem (by omega) hn (by omega)]; exact lN_i _
theorem zlr' {x n : Nat} (hx : x < 2147483648) (hn : 0 < n) (h2 : n < 2147483648) : (lN x - lN x / (nI n).toInt64 * (nI n).toInt64).toInt32 = nI (x % n) := by
  rw [nI_l (by omega)]; exact zlr hx hn h2
theorem zlne {n : Nat} (hn : 0 < n) (h2 : n < 2147483648) : ¬ (nI n).toInt64 = 0 := by
  rw [nI_l (by omega)]
  intro h
  have := (pk_lEQ (a := n) (b := 0) (by omega) (by omega)).mp h
  omega
theorem zd1_wf {g : zH} (wf : zWF g) (h0 : 0 < g 0) (x : Nat) : zWF (zd1 x g) ∧ zd1 x g 0 = g 0 ∧ zd1 x g 6 = g 6 := by
  have w0 := wf.1
  have w1 := wf.2.1
  have h1 : x % g 0 < g 0 := Nat.mod_lt _ h0
  have h2 : x % g 1 < g 1 := Nat.mod_lt _ (by omega)
  have h3 : x % 61 < 61 := Nat.mod_lt _ (by omega)
  unfold zd1
  split
  · exact ⟨zsend_wf wf h1 h2 (by omega), zsend_ne (by omega) (by omega) (by omega), zsend_ne (by omega) (by omega) (by omega)⟩
  · split
    · exact ⟨wf.s4 h2, zup_ne (by omega), zup_ne (by omega)⟩
    · exact ⟨wf, rfl, rfl⟩
theorem zdG_wf : ∀ m x g, zWF g → 0 < g 0 → g 6 + m ≤ 999999 → zWF (zdG m x g) ∧ zdG m x g 0 = g 0
  | 0, _, _, wf, _, _ => ⟨wf, rfl⟩
  | m + 1, x, g, wf, h0, h6 => by
    obtain ⟨a, b, c⟩ := zd1_wf wf h0 (zdx x)
    have h61 : zpass (fun e => e) (zd1 (zdx x) g) 6 = zd1 (zdx x) g 6 + 1 := zpass_6 a.1
    have h01 : zpass (fun e => e) (zd1 (zdx x) g) 0 = zd1 (zdx x) g 0 := zpass_ne a.1 (by omega) (by omega) (by omega) (by omega)
    have k := zdG_wf m (zdx x) (zpass (fun e => e) (zd1 (zdx x) g)) (zpass_wf a (by omega)) (by omega) (by omega)
    exact ⟨k.1, by show zdG m (zdx x) (zpass (fun e => e) (zd1 (zdx x) g)) 0 = g 0; omega⟩
theorem zdC_le : ∀ m x g, zdC m x g ≤ 6 * m
  | 0, _, _ => Nat.le_refl _
  | m + 1, x, g => by
    have := zdC_le m (zdx x) (zpass (fun e => e) (zd1 (zdx x) g))
    have := zpc_le (zan (zbits (zpass (fun e => e) (zd1 (zdx x) g)) 11 (g 0)) (zbits (zd1 (zdx x) g) 11 (g 0)))
    unfold zdC
    omega
section DR
variable {X d : Nat} {mem : zMem} {lk : zLk} {L : List Nat} {Q : Option Value → zMem → Prop} {g : zH}
theorem ok_sendBack' {h e t ht : Nat} {y : Int32} (ey : y = nI ht) (hd : 0 < d) (hh : zHo lk h) (hb : zHB mem h g) (wf : zWF g) (he : e < g 0) (q : ∀ mem', zHB mem' h (zsend g e t ht) → zfr mem mem' h → Q none mem') : zOk X d 54 [.ref h, .int (nI e), .int (nI t), .int y] mem lk L lk L Q := by
  subst ey
  exact ok_sendBack hd hh hb wf he q
theorem ok_msendsBack' {r e t ht : Nat} {y : Int32} (ey : y = nI ht) (hd : 0 < d) (hw : lk 1000 = some 2000) (hr : r + 43 ≤ 1247) (hb : zHB mem (2000 + r) g) (wf : zWF g) (he : e < g 0) (q : ∀ mem', zHB mem' (2000 + r) (zsend g e t ht) → zfr mem mem' (2000 + r) → Q none mem') : zOk X d 176 [.ref 1000, .int (nI r), .int (nI e), .int (nI t), .int y] mem lk L lk L Q := by
  subst ey
  exact ok_msendsBack hd hw hr hb wf he q
theorem ok_ones' {x : Int32} {b : Nat} (e : x = nI b) (hd : 0 < d) (hb : b < 64) (q : Q (some (.int (nI (zpc b)))) mem) : zOk X d 134 [.int x] mem lk L lk L Q := by
  subst e
  exact ok_ones hd hb q
theorem draw_loop {n s : Nat} (hn : n ≤ 60) (hd : 3 < d) (hk : zKs lk) (hh : zHo lk 10128) : ∀ m i x c g mem v8 v9 v10, i + m = n → x < 2147483648 → zHB mem 10128 g → zWF g → 0 < g 0 → g 6 + m ≤ 999999 → zSt mem → (∀ mem', zHB mem' 10128 (zdG m x g) → zfr mem mem' 10128 → Q (some (.int (nI (c + zdC m x g)))) mem') → zE X d 39 41 [.ref 710, .ref 10000, .int (nI n), .int (nI s), .long (lN x), zU, .int (nI c), .int (nI i), v8, v9, v10] [] mem lk L lk L Q := by
  intro m
  induction m with
  | zero =>
    intro i x c g mem v8 v9 v10 hi hx hb wf h0 h6 hS q
    have c1 : nI n ≤ nI i := by rw [nLe (by omega) (by omega)]; omega
    refine zE_do 40 41 (tbl := tX2_draw) zck_39 rfl (h := ?_)
    exact ⟨fun _ => ⟨rfl, rfl, q mem hb zfr.rf⟩, fun c => absurd c1 c⟩
  | succ m ih =>
    intro i x c g mem v8 v9 v10 hi hx hb wf h0 h6 hS q
    have w0 := wf.1
    have w1 := wf.2.1
    have w9 := wf.2.2.1
    have c1 : ¬ nI n ≤ nI i := by rw [nLe (by omega) (by omega)]; omega
    have hx2 := zdx_lt x
    have h1 : zdx x % g 0 < g 0 := Nat.mod_lt _ h0
    have h2 : zdx x % g 1 < g 1 := Nat.mod_lt _ (by omega)
    have h3 : zdx x % 61 < 61 := Nat.mod_lt _ (by omega)
    have h4 : zdx x % 4 < 4 := Nat.mod_lt _ (by omega)
    obtain ⟨a, b, c6⟩ := zd1_wf wf h0 (zdx x)
    have h61 : zpass (fun e => e) (zd1 (zdx x) g) 6 = zd1 (zdx x) g 6 + 1 := zpass_6 a.1
    have h01 : zpass (fun e => e) (zd1 (zdx x) g) 0 = zd1 (zdx x) g 0 := zpass_ne a.1 (by omega) (by omega) (by omega) (by omega)
    have wp := zpass_wf (ord := fun e => e) a (by omega)
    have key : ∀ m1 v10, zHB m1 10128 (zd1 (zdx x) g) → zfr mem m1 10128 → zE X d 39 143 [.ref 710, .ref 10000, .int (nI n), .int (nI s), .long (lN (zdx x)), zU, .int (nI c), .int (nI i), .int (nI (zdx x % g 0)), .int (nI (zdx x % g 1)), v10] [] m1 lk L lk L Q := fun m1 v10 hb1 f1 => by
      have hS1 : zSt m1 := hS.fr f1 (Or.inl (by omega))
      have b1 := zbits64 (g := zd1 (zdx x) g) (p := 11) a.1
      have b2 := zbits64 (g := zpass (fun e => e) (zd1 (zdx x) g)) (p := 11) wp.1
      obtain ⟨t1, t2⟩ := zan_t _ b2 _ b1
      refine zE_do 60 143 (tbl := tX2_draw) zck_39 rfl (h := ?_)
      refine ⟨rfl, _, hk.at 710 10128, by rw [hh.k3]; rfl, ok_served (by omega) hh hb1 a.1 a.at11 ⟨rfl, _, hk.at 710 10128, by rw [hh.k3]; rfl, ok_pass (by omega) hh hb1 a (by omega) (hS1.ord (by omega)) (fun m2 hb2 f2 => ⟨rfl, _, hk.at 710 10128, by rw [hh.k3]; rfl, ok_served (by omega) hh hb2 wp.1 wp.at11 (ok_bitCount' t1 (by omega) (by omega) ?_)⟩)⟩⟩
      have k := ih (i + 1) (zdx x) (c + zpc (zan (zbits (zpass (fun e => e) (zd1 (zdx x) g)) 11 (zpass (fun e => e) (zd1 (zdx x) g) 0)) (zbits (zd1 (zdx x) g) 11 (zd1 (zdx x) g 0)))) (zpass (fun e => e) (zd1 (zdx x) g)) m2 (.int (nI (zdx x % g 0))) (.int (nI (zdx x % g 1))) (.int (nI (zbits (zd1 (zdx x) g) 11 (zd1 (zdx x) g 0)))) (by omega) (by omega) hb2 wp (by omega) (by omega) (hS1.fr f2 (Or.inl (by omega))) (fun m3 hb3 f3 => ?_)
      · rw [show nI (i + 1) = nI i + nI 1 from (nI_add i 1).symm, ← nI_add c] at k
        exact k
      · have p := q m3 hb3 ((f1.tr f2).tr f3)
        unfold zdC at p
        rw [h01, b]
        rw [← Nat.add_assoc] at p
        exact p
    have key2 : ∀ v10, zE X d 39 87 [.ref 710, .ref 10000, .int (nI n), .int (nI s), .long (lN (zdx x)), zU, .int (nI c), .int (nI i), .int (nI (zdx x % g 0)), .int (nI (zdx x % g 1)), v10] [] mem lk L lk L Q := fun v10 => by
      have ea : mem (10128 + (7 + 6 * 1) + (nI (zdx x % g 0)).toNatClampNeg) = nI (g (13 + zdx x % g 0)) := by rw [nC (by omega)]; exact hb.at h1
      have h11 := wf.at11 _ h1
      unfold zd1 at key
      refine zgoc [143] 60 87 (tbl := tX2_draw) zck_39 rfl (h := ?_)
      refine ⟨rfl, _, hk.at 710 10128, hh.k3, _, hh.lk 1 (by omega), Or.inl (hh.ka 1 (by omega)), hh.inn (by omega), fun cc => ⟨by decide, fun c2 => ?_, fun c2 => ⟨rfl, _, hk.at 710 10128, hh.k3, ?_⟩⟩, fun cc => ⟨rfl, _, hk.at 710 10128, by decide, by rw [hh.k3]; rfl, ok_sendBack' (zlr (by omega) (by omega) (by omega)) (by omega) hh hb wf h1 (fun m1 hb1 f1 => ?_)⟩⟩
      · have cc : ¬ mem (10128 + (7 + 6 * 1) + (nI (zdx x % g 0)).toNatClampNeg) = nI 11 := cc
        have c2 : ¬ lg_cmp (lN (zdx x) - lN (zdx x) / lN 4 * lN 4) (lN 0) = 0 := c2
        rw [ea, nEq (by omega) (by omega)] at cc
        rw [pk_lRem (by omega) (by omega) (by omega), cmp_eq, l_T (by omega), l_T (by omega)] at c2
        rw [if_neg cc, if_neg (by omega)] at key
        exact key mem _ hb zfr.rf
      · have cc : ¬ mem (10128 + (7 + 6 * 1) + (nI (zdx x % g 0)).toNatClampNeg) = nI 11 := cc
        have c2 : lg_cmp (lN (zdx x) - lN (zdx x) / lN 4 * lN 4) (lN 0) = 0 := c2
        rw [ea, nEq (by omega) (by omega)] at cc
        rw [pk_lRem (by omega) (by omega) (by omega), cmp_eq, l_T (by omega), l_T (by omega)] at c2
        rw [if_neg cc, if_pos (by omega)] at key
        exact key _ _ (hb.set 4 _ (by omega) rfl) (zfr.up (by omega) (by omega))
      · have cc : mem (10128 + (7 + 6 * 1) + (nI (zdx x % g 0)).toNatClampNeg) = nI 11 := cc
        rw [ea, nEq (by omega) (by omega)] at cc
        rw [if_pos cc] at key
        exact key m1 _ hb1 f1
    have key3 : ∀ v8 v9 v10, zE X d 39 59 [.ref 710, .ref 10000, .int (nI n), .int (nI s), .long (lN (zdx x)), zU, .int (nI c), .int (nI i), v8, v9, v10] [] mem lk L lk L Q := fun v8 v9 v10 => by
      have e0 : mem (10128 + 0) = nI (g 0) := hb.k 0 (by omega)
      have e1 : mem (10128 + 1) = nI (g 1) := hb.k 1 (by omega)
      refine zgoc [87] 60 59 (tbl := tX2_draw) zck_39 rfl (h := ?_)
      refine ⟨rfl, _, hk.at 710 10128, hh.k3, ?_, rfl, _, hk.at 710 10128, hh.k3, ?_, ?_⟩
      · rw [e0]; exact zlne h0 (by omega)
      · rw [e1]; exact zlne (by omega) (by omega)
      · have k := key2 v10
        rw [← zlr' (n := g 0) (by omega) (by omega) (by omega), ← zlr' (n := g 1) (by omega) (by omega) (by omega), ← e0, ← e1] at k
        exact k
    refine zgoc [59] 60 41 (tbl := tX2_draw) zck_39 rfl (h := ?_)
    refine ⟨fun c => absurd c c1, fun _ => ⟨by decide, ?_⟩⟩
    have k := key3 v8 v9 v10
    rw [← zdx_l hx] at k
    exact k
theorem ok_draw {n s : Nat} (hn : n ≤ 60) (hs : s ≤ 999999) (hd : 3 < d) (hk : zKs lk) (hh : zHo lk 10128) (ho : zHo lk 10000) (hb : zHB mem 10000 g) (wf : zWF g) (h0 : 0 < g 0) (h6 : g 6 ≤ 999) (hS : zSt mem) (q : ∀ mem', zHB mem' 10128 (zdG n s g) → zfr mem mem' 10128 → Q (some (.int (nI (zdC n s g)))) mem') : zOk X d 39 [.ref 710, .ref 10000, .int (nI n), .int (nI s)] mem lk L lk L Q := by
  have w1 := wf.2.1
  have w9 := wf.2.2.1
  refine zOk_do 60 (tbl := tX2_draw) zck_39 rfl (by omega) (h := ?_)
  refine ⟨rfl, _, hk.at 710 10128, by rw [hh.k3]; rfl, ok_become (by omega) hh ho (by omega) hb wf.1 (fun m1 hb1 f1 => ⟨rfl, _, hk.at 710 10128, by rw [hh.k3]; rfl, ok_stands (by omega) hh hb1 wf.1 (fun _ => zT_eq ⟨rfl, _, hk.at 710 10128, hh.k3, fun c => ?_, fun c => ?_⟩) (fun z => by omega)⟩)⟩
  · have k := fun v8 v9 v10 => draw_loop (X := X) (L := L) (s := s) hn hd hk hh n 0 s 0 g m1 v8 v9 v10 (by omega) (by omega) hb1 wf h0 (by omega) (hS.fr f1 (Or.inl (by omega))) (fun m2 hb2 f2 => by rw [Nat.zero_add]; exact q m2 hb2 (f1.tr f2))
    rw [← nI_l (n := s) (by omega)] at k
    exact k _ _ _
  · exfalso
    have c : ¬ nI 1 ≤ m1 (10128 + 1) := c
    rw [hb1.k 1 (by omega), nLe (by omega) (by omega)] at c
    omega
def zdrawnA (g : zH) (n s w : Nat) : Nat := if w = 0 then zdC n s g else ztot (zdG n s g) 31 (g 0)
theorem ok_drawn {x y z : Int32} (hd : 5 < d) (hk : zKs lk) (hh : zHo lk 10128) (ho : zHo lk 10000) (hb : zHB mem 10000 g) (hN : zNow g) (hS : zSt mem)
    (qS : g 0 = 0 → Q (some (.int (-(nI 1000002)))) mem) (qB : 0 < g 0 → ((x.toInt < 0 ∨ 60 < x.toInt) ∨ (y.toInt < 1 ∨ 999999 < y.toInt) ∨ (z.toInt < 0 ∨ 1 < z.toInt)) → Q (some (.int (-(nI 1000001)))) mem)
    (q : ∀ n s w, 0 < g 0 → x = nI n → n ≤ 60 → y = nI s → 1 ≤ s ∧ s ≤ 999999 → z = nI w → w ≤ 1 → ∀ mem', zfr mem mem' 10128 → Q (some (.int (nI (zdrawnA g n s w)))) mem') : zOk X d 119 [.ref 100, .int x, .int y, .int z] mem lk L lk L Q := by
  refine zOk_do 90 (tbl := tX7_drawn) zck_119 rfl (by omega) (h := ?_)
  refine ⟨rfl, _, hk.at 102 10000, by rw [ho.k3]; rfl, ok_stands (by omega) ho hb hN.le.1 (fun h0 => zT_ne ?_) (fun h0 => zF_ne ⟨rfl, rfl, qS h0⟩)⟩
  have wf := hN.wf h0
  have w0 := wf.1.1
  refine ok_isOutside (a := 0) (b := 60) (by omega) (by omega) (by omega) (fun c => zT_ne ⟨rfl, rfl, qB h0 (Or.inl (by omega))⟩) (fun n h1 h2 ex => zF_ne ?_)
  refine ok_isOutside (a := 1) (b := 999999) (by omega) (by omega) (by omega) (fun c => zT_ne ⟨rfl, rfl, qB h0 (Or.inr (Or.inl (by omega)))⟩) (fun s h3 h4 ey => zF_ne ?_)
  refine ok_isOutside (a := 0) (b := 1) (by omega) (by omega) (by omega) (fun c => zT_eq ⟨rfl, rfl, qB h0 (Or.inr (Or.inr (by omega)))⟩) (fun w h5 h6 ez => zF_eq ?_)
  have p := q n s w h0 ex h2 ey ⟨h3, h4⟩ ez h6
  subst ex ey ez
  have hp : 2 ^ g 0 ≤ 2 ^ 6 := Nat.pow_le_pow_right (by omega) w0
  obtain ⟨g1, g2⟩ := zdG_wf n s g wf.1 h0 (by omega)
  unfold zdrawnA at p
  refine ⟨rfl, _, hk.at 106 710, rfl, _, hk.at 102 10000, rfl, ok_draw (by omega) (by omega) (by omega) hk hh ho hb wf.1 h0 wf.2 hS (fun m1 hb1 f1 => ⟨fun c => ?_, fun c => ⟨rfl, rfl, ?_⟩⟩)⟩
  · have c : ¬ nI w = 0 := c
    rw [n0 (by omega)] at c
    rw [if_neg c, ← zsum_all _ 31 (g 0) (g 0) (Nat.le_refl _), ← g2] at p
    refine ⟨rfl, _, hk.at 106 710, rfl, _, hk.at 710 10128, rfl, _, hk.at 102 10000, by rw [ho.k3]; rfl, ok_all (by omega) ho (hb.same w0 (fun j hj => f1 _ (by omega))) w0 ⟨by rw [hh.k3]; rfl, ok_heatOf (by omega) hh hb1 g1 (by omega) ⟨rfl, rfl, ?_⟩⟩⟩
    have p1 := p m1 f1
    rw [g2] at p1 ⊢
    exact p1
  · have c : nI w = 0 := c
    rw [n0 (by omega)] at c
    rw [if_pos c] at p
    exact p m1 f1
end DR
