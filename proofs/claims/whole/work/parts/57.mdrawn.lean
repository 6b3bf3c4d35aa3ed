/-! the reference: drawn -/
theorem zd1_1 {g : zH} (wf : zWF g) (x : Nat) : zd1 x g 1 = g 1 := by
  unfold zd1
  split
  · exact zsend_ne (by omega) (by omega) (by omega)
  · split
    · exact zup_ne (by omega)
    · rfl
section MD
variable {X d : Nat} {mem : zMem} {lk : zLk} {L : List Nat} {Q : Option Value → zMem → Prop} {g : zH}
theorem mdraw_loop {n s w : Nat} {g0 : zH} (hn : n ≤ 60) (hw1 : w ≤ 1) (hd : 4 < d) (hk : zML lk) : ∀ m i x c g mem v8 v9 v10, i + m = n → x < 2147483648 → zRw mem 43 g → zHB mem 2000 g0 → g 0 = g0 0 → g 1 = g0 1 → zWF g → 0 < g 0 → g 6 + m ≤ 999999 → (∀ mem', ztfr mem mem' → Q (some (.int (nI (if w = 0 then c + zdC m x g else ztot (zdG m x g) 31 (g 0))))) mem') → zE X d 200 61 [.ref 1000, .int (nI n), .int (nI s), .int (nI w), .long (lN x), zU, .int (nI c), .int (nI i), v8, v9, v10] [] mem lk L lk L Q := by
  intro m
  induction m with
  | zero =>
    intro i x c g mem v8 v9 v10 hi hx hr hg0 hg1 hg2 wf h0 h6 q
    have c1 : nI n ≤ nI i := by rw [nLe (by omega) (by omega)]; omega
    refine zE_do 40 61 (tbl := tX8_drawn) zck_200 rfl (h := ?_)
    refine ⟨fun _ => ⟨fun c => ⟨rfl, ok_mheatOf (r := 43) (by omega) hk.1 (by omega) hr.1 wf.1 ⟨rfl, rfl, ?_⟩⟩, fun c => ⟨rfl, rfl, ?_⟩⟩, fun c => absurd c1 c⟩
    · have c : ¬ nI w = 0 := c
      rw [n0 (by omega)] at c
      rw [if_neg c] at q
      exact q mem ztfr.rf
    · have c : nI w = 0 := c
      rw [n0 (by omega)] at c
      rw [if_pos c] at q
      exact q mem ztfr.rf
  | succ m ih =>
    intro i x c g mem v8 v9 v10 hi hx hr hg0 hg1 hg2 wf h0 h6 q
    have w0 := wf.1
    have w1 := wf.2.1
    have w9 := wf.2.2.1
    have c1 : ¬ nI n ≤ nI i := by rw [nLe (by omega) (by omega)]; omega
    have hx2 := zdx_lt x
    have h1 : zdx x % g 0 < g 0 := Nat.mod_lt _ h0
    have h2 : zdx x % g 1 < g 1 := Nat.mod_lt _ (by omega)
    have h3 : zdx x % 61 < 61 := Nat.mod_lt _ (by omega)
    have h4 : zdx x % 4 < 4 := Nat.mod_lt _ (by omega)
    obtain ⟨a, b, c6⟩ := zd1_wf wf h0 (zdx x)
    have c11 := zd1_1 wf (zdx x)
    have h61 : zpass (fun e => e) (zd1 (zdx x) g) 6 = zd1 (zdx x) g 6 + 1 := zpass_6 a.1
    have h01 : zpass (fun e => e) (zd1 (zdx x) g) 0 = zd1 (zdx x) g 0 := zpass_ne a.1 (by omega) (by omega) (by omega) (by omega)
    have h11' : zpass (fun e => e) (zd1 (zdx x) g) 1 = zd1 (zdx x) g 1 := zpass_ne a.1 (by omega) (by omega) (by omega) (by omega)
    have wp := zpass_wf (ord := fun e => e) a (by omega)
    have key : ∀ m1 v10, zRw m1 43 (zd1 (zdx x) g) → ztfr mem m1 → zE X d 200 160 [.ref 1000, .int (nI n), .int (nI s), .int (nI w), .long (lN (zdx x)), zU, .int (nI c), .int (nI i), .int (nI (zdx x % g 0)), .int (nI (zdx x % g 1)), v10] [] m1 lk L lk L Q := fun m1 v10 hr1 f1 => by
      have b1 := zbits64 (g := zd1 (zdx x) g) (p := 11) a.1
      have b2 := zbits64 (g := zpass (fun e => e) (zd1 (zdx x) g)) (p := 11) wp.1
      obtain ⟨t1, t2⟩ := zan_t _ b2 _ b1
      refine zE_do 60 160 (tbl := tX8_drawn) zck_200 rfl (h := ?_)
      refine ⟨rfl, ok_mservedOf (r := 43) (by omega) hk.1 (by omega) hr1.1 a.1 a.at11 ⟨rfl, ok_mpasses (r := 43) (by omega) hk.1 (by omega) hr1.1 a (by omega) hr1.2 (fun m2 hb2 f2 => ⟨rfl, ok_mservedOf (r := 43) (by omega) hk.1 (by omega) hb2 wp.1 wp.at11 (ok_ones' t1 (by omega) (by omega) ?_)⟩)⟩⟩
      have ff := f1.tr f2.t
      have hg0' : zHB m2 2000 g0 := hg0.same (by omega) (fun j hj => ff _ (by omega))
      have k := ih (i + 1) (zdx x) (c + zpc (zan (zbits (zpass (fun e => e) (zd1 (zdx x) g)) 11 (zpass (fun e => e) (zd1 (zdx x) g) 0)) (zbits (zd1 (zdx x) g) 11 (zd1 (zdx x) g 0)))) (zpass (fun e => e) (zd1 (zdx x) g)) m2 (.int (nI (zdx x % g 0))) (.int (nI (zdx x % g 1))) (.int (nI (zbits (zd1 (zdx x) g) 11 (zd1 (zdx x) g 0)))) (by omega) (by omega) (hr1.to hb2 h01 f2) hg0' (by omega) (by omega) wp (by omega) (by omega) (fun m3 f3 => ?_)
      · rw [show nI (i + 1) = nI i + nI 1 from (nI_add i 1).symm, ← nI_add c] at k
        exact k
      · have p := q m3 (ff.tr f3)
        unfold zdC zdG at p
        rw [h01, b]
        rw [← Nat.add_assoc] at p
        exact p
    have key2 : ∀ v10, zE X d 200 105 [.ref 1000, .int (nI n), .int (nI s), .int (nI w), .long (lN (zdx x)), zU, .int (nI c), .int (nI i), .int (nI (zdx x % g 0)), .int (nI (zdx x % g 1)), v10] [] mem lk L lk L Q := fun v10 => by
      have ea : mem (2000 + (nI 56 + nI (zdx x % g 0)).toNatClampNeg) = nI (g (13 + zdx x % g 0)) := by rw [zw1 (by omega), show 2000 + (56 + zdx x % g 0) = 2000 + 43 + 13 + zdx x % g 0 by omega]; exact hr.1.at h1
      have h11 := wf.at11 _ h1
      unfold zd1 at key
      refine zgoc [160] 60 105 (tbl := tX8_drawn) zck_200 rfl (h := ?_)
      refine ⟨rfl, _, hk.1, Or.inl rfl, zwi1 (by omega), fun cc => ⟨by decide, fun c2 => ?_, fun c2 => ⟨rfl, _, hk.1, rfl, zwi0 (by omega), ?_⟩⟩, fun cc => ⟨by decide, rfl, ok_msendsBack' (r := 43) (zlr (by omega) (by omega) (by omega)) (by omega) hk.1 (by omega) hr.1 wf h1 (fun m1 hb1 f1 => ?_)⟩⟩
      · have cc : ¬ mem (2000 + (nI 56 + nI (zdx x % g 0)).toNatClampNeg) = nI 11 := cc
        have c2 : ¬ lg_cmp (lN (zdx x) - lN (zdx x) / lN 4 * lN 4) (lN 0) = 0 := c2
        rw [ea, nEq (by omega) (by omega)] at cc
        rw [pk_lRem (by omega) (by omega) (by omega), cmp_eq, l_T (by omega), l_T (by omega)] at c2
        rw [if_neg cc, if_neg (by omega)] at key
        exact key mem _ hr ztfr.rf
      · have cc : ¬ mem (2000 + (nI 56 + nI (zdx x % g 0)).toNatClampNeg) = nI 11 := cc
        have c2 : lg_cmp (lN (zdx x) - lN (zdx x) / lN 4 * lN 4) (lN 0) = 0 := c2
        rw [ea, nEq (by omega) (by omega)] at cc
        rw [pk_lRem (by omega) (by omega) (by omega), cmp_eq, l_T (by omega), l_T (by omega)] at c2
        rw [if_neg cc, if_pos (by omega)] at key
        have f2 : zfr mem (upd mem (2000 + (nI 47).toNatClampNeg) (nI (zdx x % g 1))) (2000 + 43) := zfr.up (by show 2000 + 43 ≤ 2000 + 47; omega) (by show 2000 + 47 < _; omega)
        exact key _ _ (hr.to (hr.1.set 4 _ (by omega) rfl) (zup_ne (by omega)) f2) f2.t
      · have cc : mem (2000 + (nI 56 + nI (zdx x % g 0)).toNatClampNeg) = nI 11 := cc
        rw [ea, nEq (by omega) (by omega)] at cc
        rw [if_pos cc] at key
        exact key m1 _ (hr.to hb1 (zsend_ne (by omega) (by omega) (by omega)) f1) f1.t
    have key3 : ∀ v8 v9 v10, zE X d 200 79 [.ref 1000, .int (nI n), .int (nI s), .int (nI w), .long (lN (zdx x)), zU, .int (nI c), .int (nI i), v8, v9, v10] [] mem lk L lk L Q := fun v8 v9 v10 => by
      have e0 : mem (2000 + (nI 0).toNatClampNeg) = nI (g 0) := by rw [hg1]; exact hg0.k 0 (by omega)
      have e1 : mem (2000 + (nI 1).toNatClampNeg) = nI (g 1) := by rw [hg2]; exact hg0.k 1 (by omega)
      refine zgoc [105] 60 79 (tbl := tX8_drawn) zck_200 rfl (h := ?_)
      refine ⟨rfl, _, hk.1, Or.inl rfl, zwi0 (by omega), ?_, rfl, _, hk.1, Or.inl rfl, zwi0 (by omega), ?_, ?_⟩
      · rw [e0]; exact zlne h0 (by omega)
      · rw [e1]; exact zlne (by omega) (by omega)
      · have k := key2 v10
        rw [← zlr' (n := g 0) (by omega) (by omega) (by omega), ← zlr' (n := g 1) (by omega) (by omega) (by omega), ← e0, ← e1] at k
        exact k
    refine zgoc [79] 60 61 (tbl := tX8_drawn) zck_200 rfl (h := ?_)
    refine ⟨fun c => absurd c c1, fun _ => ⟨by decide, ?_⟩⟩
    have k := key3 v8 v9 v10
    rw [← zdx_l hx] at k
    exact k
theorem ok_mdrawn {x y z : Int32} (hd : 5 < d) (hk : zML lk) (hr : zRw mem 0 g) (hN : zNow g)
    (qS : g 0 = 0 → Q (some (.int (-(nI 1000002)))) mem) (qB : 0 < g 0 → ((x.toInt < 0 ∨ 60 < x.toInt) ∨ (y.toInt < 1 ∨ 999999 < y.toInt) ∨ (z.toInt < 0 ∨ 1 < z.toInt)) → Q (some (.int (-(nI 1000001)))) mem)
    (q : ∀ n s w, 0 < g 0 → x = nI n → n ≤ 60 → y = nI s → 1 ≤ s ∧ s ≤ 999999 → z = nI w → w ≤ 1 → ∀ mem', ztfr mem mem' → Q (some (.int (nI (zdrawnA g n s w)))) mem') : zOk X d 200 [.ref 1000, .int x, .int y, .int z] mem lk L lk L Q := by
  refine zOk_do 90 (tbl := tX8_drawn) zck_200 rfl (by omega) (h := ?_)
  refine ⟨rfl, ok_misHouse (by omega) hk.1 hr.1 hN.le.1 (fun h0 => zT_ne ?_) (fun h0 => zF_ne ⟨rfl, rfl, qS h0⟩)⟩
  have wf := hN.wf h0
  have w0 := wf.1.1
  refine ok_min (a := 0) (b := 60) (by omega) (by omega) (by omega) (fun c => zF_eq ⟨rfl, rfl, qB h0 (Or.inl (by omega))⟩) (fun n h1 h2 ex => zT_eq ?_)
  refine ok_min (a := 1) (b := 999999) (by omega) (by omega) (by omega) (fun c => zF_eq ⟨rfl, rfl, qB h0 (Or.inr (Or.inl (by omega)))⟩) (fun s h3 h4 ey => zT_eq ?_)
  refine ok_min (a := 0) (b := 1) (by omega) (by omega) (by omega) (fun c => zF_ne ⟨rfl, rfl, qB h0 (Or.inr (Or.inr (by omega)))⟩) (fun w h5 h6 ez => zT_ne ⟨rfl, ok_tries (by omega) hk.1 hr w0 (fun m1 hr1 f1 => ?_)⟩)
  have p := q n s w h0 ex h2 ey ⟨h3, h4⟩ ez h6
  subst ex ey ez
  unfold zdrawnA at p
  have k := fun v8 v9 v10 => mdraw_loop (X := X) (d := d) (L := L) (Q := Q) (n := n) (s := s) (w := w) (g0 := g) (by omega) h6 (by omega) hk n 0 s 0 g m1 v8 v9 v10 (by omega) (by omega) hr1 (hr.1.same w0 (fun j hj => f1 _ (by omega))) rfl rfl wf.1 h0 (by omega) (fun m2 f2 => by rw [Nat.zero_add]; exact p m2 (f1.tr f2))
  rw [← nI_l (n := s) (by omega)] at k
  exact k _ _ _
end MD
