/-! the class: readDish, readDishes, tells, house -/
section HS
variable {X d : Nat} {mem : zMem} {lk : zLk} {L : List Nat} {Q : Option Value → zMem → Prop} {b : Nat → Nat} {n p : Nat} {g : zH}
theorem rdish_mid {e : Nat} (hd : 3 < d) (hk : zKs lk) (ht : zHo lk 10064) (T : zTp mem b n p) (B : zby b n) (hp : p ≤ n) (hb : zHB mem 10064 g) (wf : zWF g) (hg : g 0 = e)
    (qF : ∀ f p', f ≠ 0 → (∀ k, zrd b n e p g k = (f, p', z0)) → ∀ mem', mem' 532 = nI p' → mem' 533 = nI f → zgfr mem mem' → Q (some (.int (nI 0))) mem')
    (qT : ∀ p' g', (∀ k, zrd b n e p g k = k p' g') → zWF g' → g' 0 = e + 1 → p' ≤ n → ∀ mem', mem' 532 = nI p' → mem' 533 = mem 533 → zHB mem' 10064 g' → zgfr mem mem' → Q (some (.int (nI 1))) mem') : zE X d 84 28 [.ref 530, .ref 10064, .int (nI e), .int (nI (zkn b n p))] [] mem lk L lk L Q := by
  have b1 := B.1
  have w0 := wf.1
  have w1 := wf.2.1
  have w9 := wf.2.2.1
  have hkn := zkn_le b n p
  obtain ⟨t1, t2, t3⟩ := id T
  have t2' : mem (530 + 2) = nI p := t2
  have hce : (nI e).toNatClampNeg = e := nC (by omega)
  refine zE_do 120 28 (tbl := tX6_readDish) zck_84 rfl (h := ?_)
  refine ⟨fun c1 => ⟨fun c2 => ?_, fun c2 => ⟨rfl, ok_fails (by omega) ⟨rfl, rfl, rfl, ?_⟩⟩⟩, fun c1 => ⟨rfl, ok_fails (by omega) ⟨rfl, rfl, rfl, ?_⟩⟩⟩
  · have c1 : ¬ nI (zkn b n p) = 0 := c1
    have c2 : nI e < nI 6 := c2
    rw [n0 (by omega)] at c1
    rw [nLt (by omega) (by omega)] at c2
    have hpn : p < n := by
      by_cases z : p < n
      · exact z
      · exfalso; apply c1; unfold zkn; exact if_neg z
    have hR : ∀ k, zrd b n e p g k = zrX b n (p + 1) 0 (g 1 - 1) 44 (fun p1 v1 => zrX b n p1 0 (g 1 - 1) 44 (fun p2 v2 => zrX b n p2 1 9 44 (fun p3 v3 => zrX b n p3 0 60 59 (fun p4 v4 => k p4 (zadd g e (zkn b n p) v1 v2 v3 v4))))) := fun k => by unfold zrd; rw [if_neg c1, if_neg (by omega)]
    refine ⟨rfl, rfl, ht.k3, _, ht.lk 0 (by omega), ht.ka 0 (by omega), ht.inn (by omega), ht.k3, rfl, ?_⟩
    have i0 : upd (upd mem (530 + 2) (mem (530 + 2) + nI 1)) (10064 + (7 + 6 * 0) + (nI e).toNatClampNeg) (nI (zkn b n p)) 532 = nI (p + 1) := by
      rw [upd_ne (by omega)]
      show upd mem 532 _ 532 = _
      rw [upd_eq, t2', nI_add]
    have G0 : zgfr mem (upd (upd mem (530 + 2) (mem (530 + 2) + nI 1)) (10064 + (7 + 6 * 0) + (nI e).toNatClampNeg) (nI (zkn b n p))) := zgfr.up2.tr (zgfr.up (by omega))
    have T0 := T.g b1 i0 G0
    have j0 : upd (upd mem (530 + 2) (mem (530 + 2) + nI 1)) (10064 + (7 + 6 * 0) + (nI e).toNatClampNeg) (nI (zkn b n p)) 533 = mem 533 := by rw [upd_ne (by omega), upd_ne (by omega)]
    have k0 : upd (upd mem (530 + 2) (mem (530 + 2) + nI 1)) (10064 + (7 + 6 * 0) + (nI e).toNatClampNeg) (nI (zkn b n p)) (10064 + (7 + e)) = nI (zkn b n p) := by rw [show 10064 + (7 + 6 * 0) + (nI e).toNatClampNeg = 10064 + (7 + e) by omega]; exact upd_eq
    have o0 : ∀ j, j < 37 → j ≠ 7 + e → upd (upd mem (530 + 2) (mem (530 + 2) + nI 1)) (10064 + (7 + 6 * 0) + (nI e).toNatClampNeg) (nI (zkn b n p)) (10064 + j) = mem (10064 + j) := fun j _ hj => by rw [upd_ne (by omega), upd_ne (by omega)]
    generalize upd (upd mem (530 + 2) (mem (530 + 2) + nI 1)) (10064 + (7 + 6 * 0) + (nI e).toNatClampNeg) (nI (zkn b n p)) = M0 at i0 G0 T0 j0 k0 o0 ⊢
    have e10 : M0 (10064 + 1) - nI 1 = nI (g 1 - 1) := by rw [o0 1 (by omega) (by omega), hb.k 1 (by omega), nsub (by omega) (by omega)]
    refine ok_readNumber e10 (by omega) (by omega) (by omega) (by omega) hk T0 B (by omega) (fun f p' hf E m1 a1 a2 f1 => zF_ne ⟨rfl, rfl, rfl, qF f p' hf (fun k => by rw [hR, E]) m1 a1 a2 (G0.tr f1.g)⟩) (fun p1 v1 E1 l1 h1 hp1 m1 a1 a2 a3 f1 => zT_ne ⟨ht.k3, _, ht.lk 1 (by omega), rfl, ht.ka 1 (by omega), ht.inn (by omega), ht.k3, rfl, ?_⟩)
    have i1 : upd m1 (10064 + (7 + 6 * 1) + (nI e).toNatClampNeg) (m1 (530 + 4)) 532 = nI p1 := by rw [upd_ne (by omega)]; exact a1
    have G1 : zgfr mem (upd m1 (10064 + (7 + 6 * 1) + (nI e).toNatClampNeg) (m1 (530 + 4))) := (G0.tr f1.g).tr (zgfr.up (by omega))
    have T1 := T.g b1 i1 G1
    have j1 : upd m1 (10064 + (7 + 6 * 1) + (nI e).toNatClampNeg) (m1 (530 + 4)) 533 = mem 533 := by rw [upd_ne (by omega), a2, j0]
    have k1 : upd m1 (10064 + (7 + 6 * 1) + (nI e).toNatClampNeg) (m1 (530 + 4)) (10064 + (13 + e)) = nI v1 := by rw [show 10064 + (7 + 6 * 1) + (nI e).toNatClampNeg = 10064 + (13 + e) by omega, upd_eq]; exact a3
    have o1 : ∀ j, j < 37 → j ≠ 13 + e → upd m1 (10064 + (7 + 6 * 1) + (nI e).toNatClampNeg) (m1 (530 + 4)) (10064 + j) = M0 (10064 + j) := fun j _ hj => by rw [upd_ne (by omega), f1 _ (by omega) (by omega) (by omega)]
    generalize upd m1 (10064 + (7 + 6 * 1) + (nI e).toNatClampNeg) (m1 (530 + 4)) = M1 at i1 G1 T1 j1 k1 o1 ⊢
    have e11 : M1 (10064 + 1) - nI 1 = nI (g 1 - 1) := by rw [o1 1 (by omega) (by omega)]; exact e10
    refine ok_readNumber e11 (by omega) (by omega) (by omega) (by omega) hk T1 B hp1 (fun f p' hf E m2 a1 a2 f2 => zF_ne ⟨rfl, rfl, rfl, qF f p' hf (fun k => by rw [hR, E1, E]) m2 a1 a2 (G1.tr f2.g)⟩) (fun p2 v2 E2 l2 h2 hp2 m2 a1 a2 a3 f2 => zT_ne ⟨ht.k3, _, ht.lk 2 (by omega), rfl, ht.ka 2 (by omega), ht.inn (by omega), rfl, ?_⟩)
    have i2 : upd m2 (10064 + (7 + 6 * 2) + (nI e).toNatClampNeg) (m2 (530 + 4)) 532 = nI p2 := by rw [upd_ne (by omega)]; exact a1
    have G2 : zgfr mem (upd m2 (10064 + (7 + 6 * 2) + (nI e).toNatClampNeg) (m2 (530 + 4))) := (G1.tr f2.g).tr (zgfr.up (by omega))
    have T2 := T.g b1 i2 G2
    have j2 : upd m2 (10064 + (7 + 6 * 2) + (nI e).toNatClampNeg) (m2 (530 + 4)) 533 = mem 533 := by rw [upd_ne (by omega), a2, j1]
    have k2 : upd m2 (10064 + (7 + 6 * 2) + (nI e).toNatClampNeg) (m2 (530 + 4)) (10064 + (19 + e)) = nI v2 := by rw [show 10064 + (7 + 6 * 2) + (nI e).toNatClampNeg = 10064 + (19 + e) by omega, upd_eq]; exact a3
    have o2 : ∀ j, j < 37 → j ≠ 19 + e → upd m2 (10064 + (7 + 6 * 2) + (nI e).toNatClampNeg) (m2 (530 + 4)) (10064 + j) = M1 (10064 + j) := fun j _ hj => by rw [upd_ne (by omega), f2 _ (by omega) (by omega) (by omega)]
    generalize upd m2 (10064 + (7 + 6 * 2) + (nI e).toNatClampNeg) (m2 (530 + 4)) = M2 at i2 G2 T2 j2 k2 o2 ⊢
    refine ok_readNumber rfl (by omega) (by omega) (by omega) (by omega) hk T2 B hp2 (fun f p' hf E m3 a1 a2 f3 => zF_ne ⟨rfl, rfl, rfl, qF f p' hf (fun k => by rw [hR, E1, E2, E]) m3 a1 a2 (G2.tr f3.g)⟩) (fun p3 v3 E3 l3 h3 hp3 m3 a1 a2 a3 f3 => zT_ne ⟨ht.k3, _, ht.lk 3 (by omega), rfl, ht.ka 3 (by omega), ht.inn (by omega), rfl, ?_⟩)
    have i3 : upd m3 (10064 + (7 + 6 * 3) + (nI e).toNatClampNeg) (m3 (530 + 4)) 532 = nI p3 := by rw [upd_ne (by omega)]; exact a1
    have G3 : zgfr mem (upd m3 (10064 + (7 + 6 * 3) + (nI e).toNatClampNeg) (m3 (530 + 4))) := (G2.tr f3.g).tr (zgfr.up (by omega))
    have T3 := T.g b1 i3 G3
    have j3 : upd m3 (10064 + (7 + 6 * 3) + (nI e).toNatClampNeg) (m3 (530 + 4)) 533 = mem 533 := by rw [upd_ne (by omega), a2, j2]
    have k3 : upd m3 (10064 + (7 + 6 * 3) + (nI e).toNatClampNeg) (m3 (530 + 4)) (10064 + (25 + e)) = nI v3 := by rw [show 10064 + (7 + 6 * 3) + (nI e).toNatClampNeg = 10064 + (25 + e) by omega, upd_eq]; exact a3
    have o3 : ∀ j, j < 37 → j ≠ 25 + e → upd m3 (10064 + (7 + 6 * 3) + (nI e).toNatClampNeg) (m3 (530 + 4)) (10064 + j) = M2 (10064 + j) := fun j _ hj => by rw [upd_ne (by omega), f3 _ (by omega) (by omega) (by omega)]
    generalize upd m3 (10064 + (7 + 6 * 3) + (nI e).toNatClampNeg) (m3 (530 + 4)) = M3 at i3 G3 T3 j3 k3 o3 ⊢
    refine ok_readNumber rfl (by omega) (by omega) (by omega) (by omega) hk T3 B hp3 (fun f p' hf E m4 a1 a2 f4 => zF_ne ⟨rfl, rfl, rfl, qF f p' hf (fun k => by rw [hR, E1, E2, E3, E]) m4 a1 a2 (G3.tr f4.g)⟩) (fun p4 v4 E4 l4 h4 hp4 m4 a1 a2 a3 f4 => zT_ne ⟨ht.k3, _, ht.lk 4 (by omega), rfl, ht.ka 4 (by omega), ht.inn (by omega), ht.k3, rfl, rfl, rfl, ?_⟩)
    have i4 : upd (upd m4 (10064 + (7 + 6 * 4) + (nI e).toNatClampNeg) (m4 (530 + 4))) (10064 + 0) (nI e + nI 1) 532 = nI p4 := by rw [upd_ne (by omega), upd_ne (by omega)]; exact a1
    have G4 : zgfr mem (upd (upd m4 (10064 + (7 + 6 * 4) + (nI e).toNatClampNeg) (m4 (530 + 4))) (10064 + 0) (nI e + nI 1)) := ((G3.tr f4.g).tr (zgfr.up (by omega))).tr (zgfr.up (by omega))
    have j4 : upd (upd m4 (10064 + (7 + 6 * 4) + (nI e).toNatClampNeg) (m4 (530 + 4))) (10064 + 0) (nI e + nI 1) 533 = mem 533 := by rw [upd_ne (by omega), upd_ne (by omega), a2, j3]
    have k4 : upd (upd m4 (10064 + (7 + 6 * 4) + (nI e).toNatClampNeg) (m4 (530 + 4))) (10064 + 0) (nI e + nI 1) (10064 + (31 + e)) = nI v4 := by rw [upd_ne (by omega), show 10064 + (7 + 6 * 4) + (nI e).toNatClampNeg = 10064 + (31 + e) by omega, upd_eq]; exact a3
    have o4 : ∀ j, j < 37 → j ≠ 0 → j ≠ 31 + e → upd (upd m4 (10064 + (7 + 6 * 4) + (nI e).toNatClampNeg) (m4 (530 + 4))) (10064 + 0) (nI e + nI 1) (10064 + j) = M3 (10064 + j) := fun j _ hj0 hj => by rw [upd_ne (by omega), upd_ne (by omega), f4 _ (by omega) (by omega) (by omega)]
    have z4 : upd (upd m4 (10064 + (7 + 6 * 4) + (nI e).toNatClampNeg) (m4 (530 + 4))) (10064 + 0) (nI e + nI 1) (10064 + 0) = nI (e + 1) := by rw [upd_eq, nI_add]
    obtain ⟨wa, wb⟩ := zadd_wf (k := zkn b n p) (v1 := v1) (v2 := v2) (v3 := v3) (v4 := v4) wf hg c2 ⟨by omega, hkn⟩ (by omega) (by omega) ⟨l3, h3⟩ h4
    refine qT p4 _ (fun k => by rw [hR, E1, E2, E3, E4]) wa wb hp4 _ i4 j4 (hb.add hg c2 z4 ?_ ?_ ?_ ?_ k4 (fun j hj y0 y1 y2 y3 y4 y5 => ?_)) G4
    · rw [o4 _ (by omega) (by omega) (by omega), o3 _ (by omega) (by omega), o2 _ (by omega) (by omega), o1 _ (by omega) (by omega)]; exact k0
    · rw [o4 _ (by omega) (by omega) (by omega), o3 _ (by omega) (by omega), o2 _ (by omega) (by omega)]; exact k1
    · rw [o4 _ (by omega) (by omega) (by omega), o3 _ (by omega) (by omega)]; exact k2
    · rw [o4 _ (by omega) (by omega) (by omega)]; exact k3
    · rw [o4 _ hj y0 y5, o3 _ hj y4, o2 _ hj y3, o1 _ hj y2, o0 _ hj y1]
  · have c1 : ¬ nI (zkn b n p) = 0 := c1
    have c2 : ¬ nI e < nI 6 := c2
    rw [n0 (by omega)] at c1
    rw [nLt (by omega) (by omega)] at c2
    exact qF 3 p (by omega) (fun k => by unfold zrd; rw [if_neg c1, if_pos (by omega)]) _ (by rw [upd_ne (by omega)]; exact t2) upd_eq (fun x _ y _ _ => upd_ne y)
  · have c1 : nI (zkn b n p) = 0 := c1
    rw [n0 (by omega)] at c1
    exact qF 1 p (by omega) (fun k => by unfold zrd; rw [if_pos c1]) _ (by rw [upd_ne (by omega)]; exact t2) upd_eq (fun x _ y _ _ => upd_ne y)
theorem ok_readDish {e : Nat} (hd : 3 < d) (hk : zKs lk) (ht : zHo lk 10064) (T : zTp mem b n p) (B : zby b n) (hp : p ≤ n) (hb : zHB mem 10064 g) (wf : zWF g) (hg : g 0 = e)
    (qF : ∀ f p', f ≠ 0 → (∀ k, zrd b n e p g k = (f, p', z0)) → ∀ mem', mem' 532 = nI p' → mem' 533 = nI f → zgfr mem mem' → Q (some (.int (nI 0))) mem')
    (qT : ∀ p' g', (∀ k, zrd b n e p g k = k p' g') → zWF g' → g' 0 = e + 1 → p' ≤ n → ∀ mem', mem' 532 = nI p' → mem' 533 = mem 533 → zHB mem' 10064 g' → zgfr mem mem' → Q (some (.int (nI 1))) mem') : zOk X d 84 [.ref 530, .ref 10064, .int (nI e)] mem lk L lk L Q := by
  have b1 := B.1
  have mid := rdish_mid (X := X) (L := L) hd hk ht T B hp hb wf hg qF qT
  obtain ⟨t1, t2, t3⟩ := id T
  have t1' : mem (530 + 1) = nI n := t1
  have t2' : mem (530 + 2) = nI p := t2
  unfold zkn at mid
  refine zOk_doc [28] 60 (tbl := tX6_readDish) zck_84 rfl (by omega) (h := ?_)
  refine ⟨rfl, rfl, fun c1 => ?_, fun c1 => ⟨rfl, _, hk.at 530 540, rfl, Or.inl rfl, ?_, ?_⟩⟩
  · have c1 : mem (530 + 1) ≤ mem (530 + 2) := c1
    rw [t1', t2', nLe (by omega) (by omega)] at c1
    rw [if_neg (by omega)] at mid
    exact mid
  · have c1 : ¬ mem (530 + 1) ≤ mem (530 + 2) := c1
    rw [t1', t2', nLe (by omega) (by omega)] at c1
    rw [t2']; exact in110 (by omega)
  · have c1 : ¬ mem (530 + 1) ≤ mem (530 + 2) := c1
    rw [t1', t2', nLe (by omega) (by omega)] at c1
    have e1 : mem (540 + (mem (530 + 2)).toNatClampNeg) = nI (b p) := by rw [t2', nC (by omega)]; exact t3 p (by omega)
    rw [if_pos (by omega)] at mid
    exact ok_kindOf e1 (by omega) (B.2 p (by omega)) mid
theorem rdishes_loop (hd : 4 < d) (hk : zKs lk) (ht : zHo lk 10064) (B : zby b n) : ∀ m e p g mem, e + m = 7 → zTp mem b n p → p ≤ n → zHB mem 10064 g → zWF g → g 0 = e →
    (∀ f p', f ≠ 0 → zpD b n m e p g = (f, p', z0) → ∀ mem', mem' 532 = nI p' → mem' 533 = nI f → zgfr mem mem' → Q (some (.int (nI 0))) mem') →
    (∀ p' g', zpD b n m e p g = (0, p', g') → zWF g' → 1 ≤ g' 0 → ∀ mem', mem' 532 = nI p' → mem' 533 = mem 533 → zHB mem' 10064 g' → zgfr mem mem' → Q (some (.int (nI 1))) mem') →
    zE X d 83 2 [.ref 530, .ref 10064, .int (nI e)] [] mem lk L lk L Q := by
  have b1 := B.1
  intro m
  induction m with
  | zero =>
    intro e p g mem hem T hp hb wf hg qF qT
    have := wf.1
    omega
  | succ m ih =>
    intro e p g mem hem T hp hb wf hg qF qT
    have w0 := wf.1
    have c1 : ¬ nI 6 < nI e := by rw [nLt (by omega) (by omega)]; omega
    refine zE_do 60 2 (tbl := tX6_readDishes) zck_83 rfl (h := ?_)
    refine ⟨fun c => absurd c c1, fun _ => ⟨rfl, ok_readDish (by omega) hk ht T B hp hb wf hg (fun f p' hf E m1 a1 a2 f1 => zF_ne ⟨rfl, rfl, rfl, qF f p' hf (E _) m1 a1 a2 f1⟩) (fun p' g' E wf' hg' hp' m1 a1 a2 hb1 f1 => zT_ne ⟨rfl, rfl, fun c => ?_, fun c => ⟨rfl, rfl, rfl, ?_⟩⟩)⟩⟩
    all_goals
      have T1 := T.g b1 a1 f1
      have t1 : m1 (530 + 1) = nI n := T1.1
      have t2 : m1 (530 + 2) = nI p' := a1
      have hE : zpD b n (m + 1) e p g = (if n ≤ p' then (0, p', g') else zpD b n m (e + 1) p' g') := E _
    · have c : m1 (530 + 2) < m1 (530 + 1) := c
      rw [t1, t2, nLt (by omega) (by omega)] at c
      rw [if_neg (by omega)] at hE
      rw [hE] at qF qT
      have k := ih (e + 1) p' g' m1 (by omega) T1 hp' hb1 wf' hg' (fun f p'' hf E2 m2 c1 c2 f2 => qF f p'' hf E2 m2 c1 c2 (f1.tr f2)) (fun p'' g'' E2 wf2 h2 m2 c1 c2 hb2 f2 => qT p'' g'' E2 wf2 h2 m2 c1 (c2.trans a2) hb2 (f1.tr f2))
      rw [show nI (e + 1) = nI e + nI 1 from (nI_add e 1).symm] at k
      exact k
    · have c : ¬ m1 (530 + 2) < m1 (530 + 1) := c
      rw [t1, t2, nLt (by omega) (by omega)] at c
      rw [if_pos (by omega)] at hE
      exact qT p' g' hE wf' (by omega) m1 a1 a2 hb1 f1
theorem ok_readDishes (hd : 4 < d) (hk : zKs lk) (ht : zHo lk 10064) (B : zby b n) (T : zTp mem b n p) (hp : p ≤ n) (hb : zHB mem 10064 g) (wf : zWF g) (hg : g 0 = 0)
    (qF : ∀ f p', f ≠ 0 → zpD b n 7 0 p g = (f, p', z0) → ∀ mem', mem' 532 = nI p' → mem' 533 = nI f → zgfr mem mem' → Q (some (.int (nI 0))) mem')
    (qT : ∀ p' g', zpD b n 7 0 p g = (0, p', g') → zWF g' → 1 ≤ g' 0 → ∀ mem', mem' 532 = nI p' → mem' 533 = mem 533 → zHB mem' 10064 g' → zgfr mem mem' → Q (some (.int (nI 1))) mem') : zOk X d 83 [.ref 530, .ref 10064] mem lk L lk L Q := by
  refine zOk_do 20 (tbl := tX6_readDishes) zck_83 rfl (by omega) (h := ?_)
  exact rdishes_loop hd hk ht B 7 0 p g mem (by omega) T hp hb wf hg qF qT
/-- what a telling of the class leaves -/
def zlfr (mem mem' : zMem) : Prop := ∀ x, ¬ (531 ≤ x ∧ x < 535) → ¬ (10064 ≤ x ∧ x < 10064 + 37) → mem' x = mem x
theorem zgfr.l {m1 m2 : zMem} (h : zgfr m1 m2) : zlfr m1 m2 := fun x a b => h x (by omega) (by omega) (by omega) b
theorem zlfr.tr {m1 m2 m3 : zMem} (h : zlfr m1 m2) (h' : zlfr m2 m3) : zlfr m1 m3 := fun x a b => (h' x a b).trans (h x a b)
theorem zlfr.up {mem : zMem} {y : Nat} {v : Int32} (h : 531 ≤ y ∧ y < 535) : zlfr mem (upd mem y v) := fun x e _ => upd_ne (by omega)
theorem ok_tells (hd : 5 < d) (hk : zKs lk) (ht : zHo lk 10064) (B : zby b n) (h1 : mem 531 = nI n) (h2 : ∀ i, i < n → mem (540 + i) = nI (b i))
    (qF : ∀ f p', f ≠ 0 → zparse b n = (f, p', z0) → ∀ mem', mem' 531 = nI 0 → mem' 532 = nI p' → mem' 533 = nI f → zlfr mem mem' → Q (some (.int (nI 0))) mem')
    (qT : ∀ p' g', zparse b n = (0, p', g') → zWF g' → 1 ≤ g' 0 → ∀ mem', mem' 531 = nI 0 → mem' 533 = mem 533 → zHB mem' 10064 g' → zlfr mem mem' → Q (some (.int (nI 1))) mem') : zOk X d 81 [.ref 530, .ref 10064] mem lk L lk L Q := by
  have b1 := B.1
  have T0 : zTp (upd mem (530 + 2) (nI 0)) b n 0 := ⟨by rw [upd_ne (by omega)]; exact h1, upd_eq, fun i hi => by rw [upd_ne (by omega)]; exact h2 i hi⟩
  have G0 : zlfr mem (upd mem (530 + 2) (nI 0)) := zlfr.up (by omega)
  refine zOk_do 60 (tbl := tX6_tells) zck_81 rfl (by omega) (h := ?_)
  refine ⟨rfl, rfl, ok_readLaw (by omega) hk ht T0 B (fun f p' hf E m1 a1 a2 f1 => zF_eq ⟨rfl, rfl, rfl, rfl, ?_⟩) (fun p' g' E wf hg hp m1 a1 a2 hb f1 => zT_eq ⟨rfl, ?_⟩)⟩
  · exact qF f p' hf (E _) _ upd_eq (by rw [upd_ne (by omega)]; exact a1) (by rw [upd_ne (by omega)]; exact a2) ((G0.tr f1.l).tr (zlfr.up (by omega)))
  · have hz : zparse b n = zpD b n 7 0 p' g' := E _
    rw [hz] at qF qT
    refine ok_readDishes (by omega) hk ht B (T0.g b1 a1 f1) hp hb wf hg (fun f p'' hf E2 m2 c1 c2 f2 => zF_eq ⟨rfl, rfl, rfl, rfl, ?_⟩) (fun p'' g'' E2 wf2 hg2 m2 c1 c2 hb2 f2 => zT_eq ⟨rfl, rfl, rfl, rfl, ?_⟩)
    · exact qF f p'' hf E2 _ upd_eq (by rw [upd_ne (by omega)]; exact c1) (by rw [upd_ne (by omega)]; exact c2) (((G0.tr f1.l).tr f2.l).tr (zlfr.up (by omega)))
    · refine qT p'' g'' E2 wf2 hg2 _ upd_eq ?_ (hb2.same wf2.1 (fun j hj => upd_ne (by omega))) (((G0.tr f1.l).tr f2.l).tr (zlfr.up (by omega)))
      rw [upd_ne (by omega), c2, a2, upd_ne (by omega)]
theorem ok_house (hd : 6 < d) (hk : zKs lk) (ht : zHo lk 10064) (hh : zHo lk 10000) (B : zby b n) (h1 : mem 531 = nI n) (h2 : ∀ i, i < n → mem (540 + i) = nI (b i))
    (qF : ∀ f p', f ≠ 0 → zparse b n = (f, p', z0) → ∀ mem', mem' 531 = nI 0 → mem' 533 = nI f → zlfr mem mem' → Q (some (.int (-(nI 1000100) - nI p'))) mem')
    (qT : ∀ p' g', zparse b n = (0, p', g') → zWF g' → 1 ≤ g' 0 → ∀ mem', mem' 531 = nI 0 → mem' 533 = mem 533 → zHB mem' 10000 g' → mem' 662 = nI 0 → (∀ x, ¬ (531 ≤ x ∧ x < 535) → ¬ (10000 ≤ x ∧ x < 10000 + 37) → ¬ (10064 ≤ x ∧ x < 10064 + 37) → x ≠ 662 → mem' x = mem x) → Q (some (.int (nI (g' 0)))) mem') : zOk X d 96 [.ref 100] mem lk L lk L Q := by
  refine zOk_do 60 (tbl := tX7_house) zck_96 rfl (by omega) (h := ?_)
  refine ⟨rfl, _, hk.at 101 530, rfl, _, hk.at 103 10064, rfl, ok_tells (by omega) hk ht B h1 h2 (fun f p' hf E m1 a0 a1 a2 f1 => zF_ne ⟨rfl, _, hk.at 101 530, rfl, rfl, rfl, ?_⟩) (fun p' g' E wf hg m1 a0 a2 hb f1 => zT_ne ⟨rfl, _, hk.at 102 10000, rfl, _, hk.at 103 10064, by rw [hh.k3]; rfl, ok_become (by omega) hh ht (by omega) hb wf.1 (fun m2 hb2 f2 => ⟨rfl, _, hk.at 104 660, rfl, ok_forget (by omega) ⟨rfl, _, hk.at 102 10000, hh.k3, rfl, rfl, ?_⟩⟩)⟩)⟩
  · have p := qF f p' hf E m1 a0 a2 f1
    rw [← a1] at p
    exact p
  · have hb3 : zHB (upd m2 662 (nI 0)) 10000 g' := hb2.same wf.1 (fun j hj => upd_ne (by omega))
    have p := qT p' g' E wf hg (upd m2 662 (nI 0)) (by rw [upd_ne (by omega), f2 _ (by omega)]; exact a0) (by rw [upd_ne (by omega), f2 _ (by omega)]; exact a2) hb3 upd_eq (fun x y1 y2 y3 y4 => by rw [upd_ne y4, f2 x y2, f1 x y1 y3])
    rw [← hb3.k 0 (by omega)] at p
    exact p
end HS
