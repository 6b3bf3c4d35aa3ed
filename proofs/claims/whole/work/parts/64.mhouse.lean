/-! the reference: takesLaw, takesDish, takesAll, house -/
def zyfr (mem mem' : zMem) : Prop := ∀ x, x ≠ 1004 → x ≠ 1010 → x ≠ 1011 → x ≠ 1012 → ¬ (2172 ≤ x ∧ x < 2172 + 43) → mem' x = mem x
theorem zyfr.rf {mem : zMem} : zyfr mem mem := fun _ _ _ _ _ _ => rfl
theorem zyfr.tr {m1 m2 m3 : zMem} (h : zyfr m1 m2) (h' : zyfr m2 m3) : zyfr m1 m3 := fun x a b c e f => (h' x a b c e f).trans (h x a b c e f)
theorem zrfr.y {m1 m2 : zMem} (h : zrfr m1 m2) : zyfr m1 m2 := fun x a b c e _ => h x a b c e
theorem zyfr.up {mem : zMem} {y : Nat} {v : Int32} (h : 2172 ≤ y ∧ y < 2172 + 43) : zyfr mem (upd mem y v) := fun x _ _ _ _ e => upd_ne (by omega)
theorem zyfr.up2 {mem : zMem} {v : Int32} : zyfr mem (upd mem 1010 v) := fun x _ e _ _ _ => upd_ne e
theorem zTm.y {mem mem' : zMem} {b : Nat → Nat} {n p p' : Nat} (h : zTm mem b n p) (hn : n ≤ 110) (h5 : mem' 1010 = nI p') (hf : zyfr mem mem') : zTm mem' b n p' :=
  ⟨by rw [hf _ (by omega) (by omega) (by omega) (by omega) (by omega)]; exact h.1, h5, fun i hi => by rw [hf _ (by omega) (by omega) (by omega) (by omega) (by omega)]; exact h.2.2 i hi⟩
theorem zbare_up (a r w : Nat) : va_up (va_up (va_up (zbare 0 0 0) 1 a) 2 r) 3 w = zbare a r w := by
  funext j
  by_cases h3 : j = 3
  · subst h3; rw [zup_eq]; rfl
  · rw [zup_ne h3]
    by_cases h2 : j = 2
    · subst h2; rw [zup_eq]; rfl
    · rw [zup_ne h2]
      by_cases h1 : j = 1
      · subst h1; rw [zup_eq]; rfl
      · rw [zup_ne h1]
        unfold zbare
        rw [if_neg h1, if_neg h2, if_neg h3, if_neg h1, if_neg h2, if_neg h3]
theorem zrX_f {b : Nat → Nat} {n p lo hi c f : Nat} (E : ∀ k, zrN b n p lo hi k = (f, p, z0)) : ∀ k, zrX b n p lo hi c k = (f, p, z0) := fun k => by unfold zrX; rw [E]
theorem zrX_g {b : Nat → Nat} {n p lo hi c f p1 p2 v : Nat} (E : ∀ k, zrN b n p lo hi k = k p1 v) (E' : ∀ k, zrB b n p1 c k = (f, p2, z0)) : ∀ k, zrX b n p lo hi c k = (f, p2, z0) := fun k => by unfold zrX; rw [E, E']
theorem zrX_t {b : Nat → Nat} {n p lo hi c p1 p2 v : Nat} (E : ∀ k, zrN b n p lo hi k = k p1 v) (E' : ∀ k, zrB b n p1 c k = k p2) : ∀ k, zrX b n p lo hi c k = k p2 v := fun k => by unfold zrX; rw [E, E']
section MH
variable {X d : Nat} {mem : zMem} {lk : zLk} {L : List Nat} {Q : Option Value → zMem → Prop} {b : Nat → Nat} {n p : Nat} {g : zH}
theorem ok_takesLaw (hd : 2 < d) (hk : zML lk) (T : zTm mem b n 0) (B : zby b n) (hb : zHB mem 2172 (zbare 0 0 0))
    (qF : ∀ f p', f ≠ 0 → (∀ k, zpL b n k = (f, p', z0)) → ∀ mem', mem' 1004 = nI f → mem' 1011 = nI p' → zyfr mem mem' → Q (some (.int (nI 0))) mem')
    (qT : ∀ p' g', (∀ k, zpL b n k = k p' g') → zWF g' → g' 0 = 0 → p' ≤ n → ∀ mem', mem' 1010 = nI p' → mem' 1004 = mem 1004 → zHB mem' 2172 g' → zyfr mem mem' → Q (some (.int (nI 1))) mem') : zOk X d 152 [.ref 1000] mem lk L lk L Q := by
  have b1 := B.1
  refine zOk_do 90 (tbl := tX8_takesLaw) zck_152 rfl (by omega) (h := ?_)
  refine ⟨rfl, ok_takes (by omega) hk T B (by omega) (by omega) (fun E0 hpn m1 a1 a2 a3 f1 => zT_eq ⟨rfl, ?_⟩) (fun E0 m1 a1 a2 f1 => zF_eq ⟨rfl, rfl, rfl, qF 1 0 (by omega) (fun k => by unfold zpL; rw [E0]) m1 a1 a2 f1.y⟩)⟩
  have T1 := T.fr b1 a1 f1
  refine ok_takesNumber rfl (by omega) (by omega) (by omega) hk T1 B (by omega) (fun f hf E m2 c1 c2 f2 => zF_ne ⟨rfl, rfl, rfl, qF f _ hf (fun k => by unfold zpL; rw [E0, zrX_f E]) m2 c1 c2 (f1.tr f2).y⟩) (fun p2 v1 E1 l1 l2 hp2 m2 c1 c2 c3 f2 => zT_ne ⟨rfl, _, hk.1, rfl, rfl, zwi0 (by omega), rfl, ?_⟩)
  have G2 : zyfr mem (upd m2 (2000 + (nI 173).toNatClampNeg) (m2 (1000 + 12))) := (f1.tr f2).y.tr (zyfr.up (by show 2172 ≤ 2173 ∧ 2173 < _; omega))
  have i2 : upd m2 (2000 + (nI 173).toNatClampNeg) (m2 (1000 + 12)) 1010 = nI p2 := by rw [upd_ne (by show 1010 ≠ 2173; omega)]; exact c1
  have j2 : upd m2 (2000 + (nI 173).toNatClampNeg) (m2 (1000 + 12)) 1004 = mem 1004 := by rw [upd_ne (by show 1004 ≠ 2173; omega), c2, a2]
  have hb2 : zHB (upd m2 (2000 + (nI 173).toNatClampNeg) (m2 (1000 + 12))) 2172 (va_up (zbare 0 0 0) 1 v1) := by
    rw [show m2 (1000 + 12) = nI v1 from c3]
    exact (hb.same (by show 0 ≤ 6; omega) (fun j hj => by rw [f2 _ (by omega) (by omega) (by omega) (by omega), f1 _ (by omega) (by omega) (by omega) (by omega)])).set 1 v1 (by omega) rfl
  generalize upd m2 (2000 + (nI 173).toNatClampNeg) (m2 (1000 + 12)) = M2 at G2 i2 j2 hb2 ⊢
  have T2 := T.y b1 i2 G2
  refine ok_takes (by omega) hk T2 B hp2 (by omega) (fun E1' hpn2 m3 a1 a2 a3 f3 => zT_eq ⟨rfl, ?_⟩) (fun E1' m3 a1 a2 f3 => zF_eq ⟨rfl, rfl, rfl, qF 1 _ (by omega) (fun k => by unfold zpL; rw [E0, zrX_g E1 E1']) m3 a1 a2 (G2.tr f3.y)⟩)
  have T3 := T2.fr b1 a1 f3
  refine ok_takesNumber rfl (by omega) (by omega) (by omega) hk T3 B (by omega) (fun f hf E m4 c1 c2 f4 => zF_ne ⟨rfl, rfl, rfl, qF f _ hf (fun k => by unfold zpL; rw [E0, zrX_t E1 E1', zrX_f E]) m4 c1 c2 (G2.tr (f3.tr f4).y)⟩) (fun p4 v2 E2 l3 l4 hp4 m4 c1 c2 c3 f4 => zT_ne ⟨rfl, _, hk.1, rfl, rfl, zwi0 (by omega), rfl, ?_⟩)
  have G4 : zyfr mem (upd m4 (2000 + (nI 174).toNatClampNeg) (m4 (1000 + 12))) := (G2.tr (f3.tr f4).y).tr (zyfr.up (by show 2172 ≤ 2174 ∧ 2174 < _; omega))
  have i4 : upd m4 (2000 + (nI 174).toNatClampNeg) (m4 (1000 + 12)) 1010 = nI p4 := by rw [upd_ne (by show 1010 ≠ 2174; omega)]; exact c1
  have j4 : upd m4 (2000 + (nI 174).toNatClampNeg) (m4 (1000 + 12)) 1004 = mem 1004 := by rw [upd_ne (by show 1004 ≠ 2174; omega), c2, a2, j2]
  have hb4 : zHB (upd m4 (2000 + (nI 174).toNatClampNeg) (m4 (1000 + 12))) 2172 (va_up (va_up (zbare 0 0 0) 1 v1) 2 v2) := by
    rw [show m4 (1000 + 12) = nI v2 from c3]
    exact (hb2.same (by show 0 ≤ 6; omega) (fun j hj => by rw [f4 _ (by omega) (by omega) (by omega) (by omega), f3 _ (by omega) (by omega) (by omega) (by omega)])).set 2 v2 (by omega) rfl
  generalize upd m4 (2000 + (nI 174).toNatClampNeg) (m4 (1000 + 12)) = M4 at G4 i4 j4 hb4 ⊢
  have T4 := T.y b1 i4 G4
  refine ok_takes (by omega) hk T4 B hp4 (by omega) (fun E2' hpn4 m5 a1 a2 a3 f5 => zT_eq ⟨rfl, ?_⟩) (fun E2' m5 a1 a2 f5 => zF_eq ⟨rfl, rfl, rfl, qF 1 _ (by omega) (fun k => by unfold zpL; rw [E0, zrX_t E1 E1', zrX_g E2 E2']) m5 a1 a2 (G4.tr f5.y)⟩)
  have T5 := T4.fr b1 a1 f5
  refine ok_takesNumber rfl (by omega) (by omega) (by omega) hk T5 B (by omega) (fun f hf E m6 c1 c2 f6 => zF_ne ⟨rfl, rfl, rfl, qF f _ hf (fun k => by unfold zpL; rw [E0, zrX_t E1 E1', zrX_t E2 E2', zrX_f E]) m6 c1 c2 (G4.tr (f5.tr f6).y)⟩) (fun p6 v3 E3 l5 l6 hp6 m6 c1 c2 c3 f6 => zT_ne ⟨rfl, _, hk.1, rfl, rfl, zwi0 (by omega), rfl, ?_⟩)
  have G6 : zyfr mem (upd m6 (2000 + (nI 175).toNatClampNeg) (m6 (1000 + 12))) := (G4.tr (f5.tr f6).y).tr (zyfr.up (by show 2172 ≤ 2175 ∧ 2175 < _; omega))
  have i6 : upd m6 (2000 + (nI 175).toNatClampNeg) (m6 (1000 + 12)) 1010 = nI p6 := by rw [upd_ne (by show 1010 ≠ 2175; omega)]; exact c1
  have j6 : upd m6 (2000 + (nI 175).toNatClampNeg) (m6 (1000 + 12)) 1004 = mem 1004 := by rw [upd_ne (by show 1004 ≠ 2175; omega), c2, a2, j4]
  have hb6 : zHB (upd m6 (2000 + (nI 175).toNatClampNeg) (m6 (1000 + 12))) 2172 (zbare v1 v2 v3) := by
    rw [show m6 (1000 + 12) = nI v3 from c3, ← zbare_up]
    exact (hb4.same (by show 0 ≤ 6; omega) (fun j hj => by rw [f6 _ (by omega) (by omega) (by omega) (by omega), f5 _ (by omega) (by omega) (by omega) (by omega)])).set 3 v3 (by omega) rfl
  generalize upd m6 (2000 + (nI 175).toNatClampNeg) (m6 (1000 + 12)) = M6 at G6 i6 j6 hb6 ⊢
  have T6 := T.y b1 i6 G6
  refine ok_takes (by omega) hk T6 B hp6 (by omega) (fun E3' hpn6 m7 a1 a2 a3 f7 => ⟨rfl, rfl, rfl, ?_⟩) (fun E3' m7 a1 a2 f7 => ⟨rfl, rfl, rfl, qF 1 _ (by omega) (fun k => by unfold zpL; rw [E0, zrX_t E1 E1', zrX_t E2 E2', zrX_g E3 E3']) m7 a1 a2 (G6.tr f7.y)⟩)
  exact qT (p6 + 1) (zbare v1 v2 v3) (fun k => by unfold zpL; rw [E0, zrX_t E1 E1', zrX_t E2 E2', zrX_t E3 E3']) (zbare_wf ⟨l1, l2⟩ ⟨l3, l4⟩ ⟨l5, l6⟩) rfl (by omega) m7 a1 (a2.trans j6) (hb6.same (by show 0 ≤ 6; omega) (fun j hj => f7 _ (by omega) (by omega) (by omega) (by omega))) (G6.tr f7.y)
theorem tdish_mid {e : Nat} (hd : 2 < d) (hk : zML lk) (T : zTm mem b n p) (B : zby b n) (hp : p ≤ n) (hr : zRw mem 172 g) (wf : zWF g) (hg : g 0 = e)
    (qF : ∀ f p', f ≠ 0 → (∀ k, zrd b n e p g k = (f, p', z0)) → ∀ mem', mem' 1004 = nI f → mem' 1011 = nI p' → zyfr mem mem' → Q (some (.int (nI 0))) mem')
    (qT : ∀ p' g', (∀ k, zrd b n e p g k = k p' g') → zWF g' → g' 0 = e + 1 → p' ≤ n → ∀ mem', mem' 1010 = nI p' → mem' 1004 = mem 1004 → zRw mem' 172 g' → zyfr mem mem' → Q (some (.int (nI 1))) mem') : zE X d 153 17 [.ref 1000, .int (nI e), .int (nI (zkn b n p))] [] mem lk L lk L Q := by
  have b1 := B.1
  have w0 := wf.1
  have w1 := wf.2.1
  have w9 := wf.2.2.1
  have hkn := zkn_le b n p
  have hb : zHB mem 2172 g := hr.1
  obtain ⟨t1, t2, t3⟩ := id T
  have t2' : mem (1000 + 10) = nI p := t2
  have ad : ∀ f, f < 300 → 2000 + (nI f + nI e).toNatClampNeg = 2000 + f + e := fun f hf => by rw [nI_add, nC (by omega)]; omega
  have in1 : ∀ f, f < 300 → vp_in (nI f + nI e) (ln X 2000) := fun f hf => zwi1 (by omega)
  refine zE_do 160 17 (tbl := tX8_takesDish) zck_153 rfl (h := ?_)
  refine ⟨fun c1 => ⟨fun c2 => ?_, fun c2 => ⟨rfl, rfl, ok_mfails (by omega) ⟨rfl, rfl, rfl, ?_⟩⟩⟩, fun c1 => ⟨rfl, rfl, ok_mfails (by omega) ⟨rfl, rfl, rfl, ?_⟩⟩⟩
  · have c1 : ¬ nI (zkn b n p) = 0 := c1
    have c2 : ¬ nI e = nI 6 := c2
    rw [n0 (by omega)] at c1
    rw [nEq (by omega) (by omega)] at c2
    have hpn : p < n := by
      by_cases z : p < n
      · exact z
      · exfalso; apply c1; unfold zkn; exact if_neg z
    have hR : ∀ k, zrd b n e p g k = zrX b n (p + 1) 0 (g 1 - 1) 44 (fun p1 v1 => zrX b n p1 0 (g 1 - 1) 44 (fun p2 v2 => zrX b n p2 1 9 44 (fun p3 v3 => zrX b n p3 0 60 59 (fun p4 v4 => k p4 (zadd g e (zkn b n p) v1 v2 v3 v4))))) := fun k => by unfold zrd; rw [if_neg c1, if_neg (by omega)]
    refine ⟨rfl, rfl, rfl, _, hk.1, rfl, in1 179 (by omega), rfl, _, hk.1, Or.inl rfl, zwi0 (by omega), rfl, ?_⟩
    have a179 := ad 179 (by omega)
    have i0 : upd (upd mem (1000 + 10) (mem (1000 + 10) + nI 1)) (2000 + (nI 179 + nI e).toNatClampNeg) (nI (zkn b n p)) 1010 = nI (p + 1) := by
      rw [upd_ne (by omega)]
      show upd mem 1010 _ 1010 = _
      rw [upd_eq, t2', nI_add]
    have G0 : zyfr mem (upd (upd mem (1000 + 10) (mem (1000 + 10) + nI 1)) (2000 + (nI 179 + nI e).toNatClampNeg) (nI (zkn b n p))) := zyfr.up2.tr (zyfr.up (by omega))
    have T0 := T.y b1 i0 G0
    have j0 : upd (upd mem (1000 + 10) (mem (1000 + 10) + nI 1)) (2000 + (nI 179 + nI e).toNatClampNeg) (nI (zkn b n p)) 1004 = mem 1004 := by rw [upd_ne (by omega), upd_ne (by omega)]
    have k0 : upd (upd mem (1000 + 10) (mem (1000 + 10) + nI 1)) (2000 + (nI 179 + nI e).toNatClampNeg) (nI (zkn b n p)) (2172 + (7 + e)) = nI (zkn b n p) := by rw [show 2000 + (nI 179 + nI e).toNatClampNeg = 2172 + (7 + e) by omega]; exact upd_eq
    have o0 : ∀ j, j < 43 → j ≠ 7 + e → upd (upd mem (1000 + 10) (mem (1000 + 10) + nI 1)) (2000 + (nI 179 + nI e).toNatClampNeg) (nI (zkn b n p)) (2172 + j) = mem (2172 + j) := fun j _ hj => by rw [upd_ne (by omega), upd_ne (by omega)]
    generalize upd (upd mem (1000 + 10) (mem (1000 + 10) + nI 1)) (2000 + (nI 179 + nI e).toNatClampNeg) (nI (zkn b n p)) = M0 at i0 G0 T0 j0 k0 o0 ⊢
    have e10 : M0 (2000 + (nI 173).toNatClampNeg) - nI 1 = nI (g 1 - 1) := by rw [show M0 (2000 + (nI 173).toNatClampNeg) = mem (2172 + 1) from o0 1 (by omega) (by omega), hb.k 1 (by omega), nsub (by omega) (by omega)]
    -- at
    refine ok_takesNumber e10 (by omega) (by omega) (by omega) hk T0 B (by omega) (fun f hf E m1 a1 a2 f1 => zF_ne ⟨rfl, rfl, rfl, qF f _ hf (fun k => by rw [hR, zrX_f E]) m1 a1 a2 (G0.tr f1.y)⟩) (fun p1 v1 E1 l1 h1 hp1 m1 a1 a2 a3 f1 => zT_ne ⟨rfl, _, hk.1, rfl, rfl, in1 185 (by omega), rfl, ?_⟩)
    have a185 := ad 185 (by omega)
    have i1 : upd m1 (2000 + (nI 185 + nI e).toNatClampNeg) (m1 (1000 + 12)) 1010 = nI p1 := by rw [upd_ne (by omega)]; exact a1
    have G1 : zyfr mem (upd m1 (2000 + (nI 185 + nI e).toNatClampNeg) (m1 (1000 + 12))) := (G0.tr f1.y).tr (zyfr.up (by omega))
    have T1 := T.y b1 i1 G1
    have j1 : upd m1 (2000 + (nI 185 + nI e).toNatClampNeg) (m1 (1000 + 12)) 1004 = mem 1004 := by rw [upd_ne (by omega), a2, j0]
    have k1 : upd m1 (2000 + (nI 185 + nI e).toNatClampNeg) (m1 (1000 + 12)) (2172 + (13 + e)) = nI v1 := by rw [show 2000 + (nI 185 + nI e).toNatClampNeg = 2172 + (13 + e) by omega, upd_eq]; exact a3
    have o1 : ∀ j, j < 43 → j ≠ 13 + e → upd m1 (2000 + (nI 185 + nI e).toNatClampNeg) (m1 (1000 + 12)) (2172 + j) = M0 (2172 + j) := fun j _ hj => by rw [upd_ne (by omega), f1 _ (by omega) (by omega) (by omega) (by omega)]
    generalize upd m1 (2000 + (nI 185 + nI e).toNatClampNeg) (m1 (1000 + 12)) = M1 at i1 G1 T1 j1 k1 o1 ⊢
    refine ok_takes (by omega) hk T1 B hp1 (by omega) (fun E1' hpn1 m2 a1 a2 a3 f2 => zT_eq ⟨rfl, _, hk.1, Or.inl rfl, zwi0 (by omega), rfl, ?_⟩) (fun E1' m2 a1 a2 f2 => zF_eq ⟨rfl, rfl, rfl, qF 1 _ (by omega) (fun k => by rw [hR, zrX_g E1 E1']) m2 a1 a2 (G1.tr f2.y)⟩)
    have T2 := T1.fr b1 a1 f2
    have j2 : m2 1004 = mem 1004 := a2.trans j1
    have o2 : ∀ j, j < 43 → m2 (2172 + j) = M1 (2172 + j) := fun j _ => f2 _ (by omega) (by omega) (by omega) (by omega)
    have G2 := G1.tr f2.y
    have e11 : m2 (2000 + (nI 173).toNatClampNeg) - nI 1 = nI (g 1 - 1) := by rw [show m2 (2000 + (nI 173).toNatClampNeg) = M1 (2172 + 1) from o2 1 (by omega), o1 1 (by omega) (by omega)]; exact e10
    -- to
    refine ok_takesNumber e11 (by omega) (by omega) (by omega) hk T2 B (by omega) (fun f hf E m3 a1 a2 f3 => zF_ne ⟨rfl, rfl, rfl, qF f _ hf (fun k => by rw [hR, zrX_t E1 E1', zrX_f E]) m3 a1 a2 (G2.tr f3.y)⟩) (fun p3 v2 E2 l2 h2 hp3 m3 a1 a2 a3 f3 => zT_ne ⟨rfl, _, hk.1, rfl, rfl, in1 191 (by omega), rfl, ?_⟩)
    have a191 := ad 191 (by omega)
    have i3 : upd m3 (2000 + (nI 191 + nI e).toNatClampNeg) (m3 (1000 + 12)) 1010 = nI p3 := by rw [upd_ne (by omega)]; exact a1
    have G3 : zyfr mem (upd m3 (2000 + (nI 191 + nI e).toNatClampNeg) (m3 (1000 + 12))) := (G2.tr f3.y).tr (zyfr.up (by omega))
    have T3 := T.y b1 i3 G3
    have j3 : upd m3 (2000 + (nI 191 + nI e).toNatClampNeg) (m3 (1000 + 12)) 1004 = mem 1004 := by rw [upd_ne (by omega), a2, j2]
    have k3 : upd m3 (2000 + (nI 191 + nI e).toNatClampNeg) (m3 (1000 + 12)) (2172 + (19 + e)) = nI v2 := by rw [show 2000 + (nI 191 + nI e).toNatClampNeg = 2172 + (19 + e) by omega, upd_eq]; exact a3
    have o3 : ∀ j, j < 43 → j ≠ 19 + e → upd m3 (2000 + (nI 191 + nI e).toNatClampNeg) (m3 (1000 + 12)) (2172 + j) = M1 (2172 + j) := fun j hj0 hj => by rw [upd_ne (by omega), f3 _ (by omega) (by omega) (by omega) (by omega), o2 j hj0]
    generalize upd m3 (2000 + (nI 191 + nI e).toNatClampNeg) (m3 (1000 + 12)) = M3 at i3 G3 T3 j3 k3 o3 ⊢
    refine ok_takes (by omega) hk T3 B hp3 (by omega) (fun E2' hpn3 m4 a1 a2 a3 f4 => zT_eq ⟨rfl, ?_⟩) (fun E2' m4 a1 a2 f4 => zF_eq ⟨rfl, rfl, rfl, qF 1 _ (by omega) (fun k => by rw [hR, zrX_t E1 E1', zrX_g E2 E2']) m4 a1 a2 (G3.tr f4.y)⟩)
    have T4 := T3.fr b1 a1 f4
    have j4 : m4 1004 = mem 1004 := a2.trans j3
    have o4 : ∀ j, j < 43 → m4 (2172 + j) = M3 (2172 + j) := fun j _ => f4 _ (by omega) (by omega) (by omega) (by omega)
    have G4 := G3.tr f4.y
    -- weight
    refine ok_takesNumber rfl (by omega) (by omega) (by omega) hk T4 B (by omega) (fun f hf E m5 a1 a2 f5 => zF_ne ⟨rfl, rfl, rfl, qF f _ hf (fun k => by rw [hR, zrX_t E1 E1', zrX_t E2 E2', zrX_f E]) m5 a1 a2 (G4.tr f5.y)⟩) (fun p5 v3 E3 l3 h3 hp5 m5 a1 a2 a3 f5 => zT_ne ⟨rfl, _, hk.1, rfl, rfl, in1 197 (by omega), rfl, ?_⟩)
    have a197 := ad 197 (by omega)
    have i5 : upd m5 (2000 + (nI 197 + nI e).toNatClampNeg) (m5 (1000 + 12)) 1010 = nI p5 := by rw [upd_ne (by omega)]; exact a1
    have G5 : zyfr mem (upd m5 (2000 + (nI 197 + nI e).toNatClampNeg) (m5 (1000 + 12))) := (G4.tr f5.y).tr (zyfr.up (by omega))
    have T5 := T.y b1 i5 G5
    have j5 : upd m5 (2000 + (nI 197 + nI e).toNatClampNeg) (m5 (1000 + 12)) 1004 = mem 1004 := by rw [upd_ne (by omega), a2, j4]
    have k5 : upd m5 (2000 + (nI 197 + nI e).toNatClampNeg) (m5 (1000 + 12)) (2172 + (25 + e)) = nI v3 := by rw [show 2000 + (nI 197 + nI e).toNatClampNeg = 2172 + (25 + e) by omega, upd_eq]; exact a3
    have o5 : ∀ j, j < 43 → j ≠ 25 + e → upd m5 (2000 + (nI 197 + nI e).toNatClampNeg) (m5 (1000 + 12)) (2172 + j) = M3 (2172 + j) := fun j hj0 hj => by rw [upd_ne (by omega), f5 _ (by omega) (by omega) (by omega) (by omega), o4 j hj0]
    generalize upd m5 (2000 + (nI 197 + nI e).toNatClampNeg) (m5 (1000 + 12)) = M5 at i5 G5 T5 j5 k5 o5 ⊢
    refine ok_takes (by omega) hk T5 B hp5 (by omega) (fun E3' hpn5 m6 a1 a2 a3 f6 => zT_eq ⟨rfl, ?_⟩) (fun E3' m6 a1 a2 f6 => zF_eq ⟨rfl, rfl, rfl, qF 1 _ (by omega) (fun k => by rw [hR, zrX_t E1 E1', zrX_t E2 E2', zrX_g E3 E3']) m6 a1 a2 (G5.tr f6.y)⟩)
    have T6 := T5.fr b1 a1 f6
    have j6 : m6 1004 = mem 1004 := a2.trans j5
    have o6 : ∀ j, j < 43 → m6 (2172 + j) = M5 (2172 + j) := fun j _ => f6 _ (by omega) (by omega) (by omega) (by omega)
    have G6 := G5.tr f6.y
    -- heat
    refine ok_takesNumber rfl (by omega) (by omega) (by omega) hk T6 B (by omega) (fun f hf E m7 a1 a2 f7 => zF_ne ⟨rfl, rfl, rfl, qF f _ hf (fun k => by rw [hR, zrX_t E1 E1', zrX_t E2 E2', zrX_t E3 E3', zrX_f E]) m7 a1 a2 (G6.tr f7.y)⟩) (fun p7 v4 E4 l4 h4 hp7 m7 a1 a2 a3 f7 => zT_ne ⟨rfl, _, hk.1, rfl, rfl, in1 203 (by omega), rfl, _, hk.1, rfl, in1 209 (by omega), rfl, _, hk.1, Or.inl rfl, zwi0 (by omega), rfl, zwi0 (by omega), rfl, ?_⟩)
    have a203 := ad 203 (by omega)
    have a209 := ad 209 (by omega)
    have a172 : 2000 + (nI 172).toNatClampNeg = 2172 + 0 := rfl
    have o7 : ∀ j, j < 43 → m7 (2172 + j) = M5 (2172 + j) := fun j hj => by rw [f7 _ (by omega) (by omega) (by omega) (by omega), o6 j hj]
    have v0 : upd (upd m7 (2000 + (nI 203 + nI e).toNatClampNeg) (m7 (1000 + 12))) (2000 + (nI 209 + nI e).toNatClampNeg) (nI e) (2000 + (nI 172).toNatClampNeg) = nI e := by
      rw [upd_ne (by omega), upd_ne (by omega), a172, o7 0 (by omega), o5 0 (by omega) (by omega), o3 0 (by omega) (by omega), o1 0 (by omega) (by omega), o0 0 (by omega) (by omega), hb.k 0 (by omega), hg]
    have i7 : upd (upd (upd m7 (2000 + (nI 203 + nI e).toNatClampNeg) (m7 (1000 + 12))) (2000 + (nI 209 + nI e).toNatClampNeg) (nI e)) (2000 + (nI 172).toNatClampNeg) (upd (upd m7 (2000 + (nI 203 + nI e).toNatClampNeg) (m7 (1000 + 12))) (2000 + (nI 209 + nI e).toNatClampNeg) (nI e) (2000 + (nI 172).toNatClampNeg) + nI 1) 1010 = nI p7 := by rw [upd_ne (by omega), upd_ne (by omega), upd_ne (by omega)]; exact a1
    have G7 : zyfr mem (upd (upd (upd m7 (2000 + (nI 203 + nI e).toNatClampNeg) (m7 (1000 + 12))) (2000 + (nI 209 + nI e).toNatClampNeg) (nI e)) (2000 + (nI 172).toNatClampNeg) (upd (upd m7 (2000 + (nI 203 + nI e).toNatClampNeg) (m7 (1000 + 12))) (2000 + (nI 209 + nI e).toNatClampNeg) (nI e) (2000 + (nI 172).toNatClampNeg) + nI 1)) := (((G6.tr f7.y).tr (zyfr.up (by omega))).tr (zyfr.up (by omega))).tr (zyfr.up (by omega))
    have T7 := T.y b1 i7 G7
    have j7 : upd (upd (upd m7 (2000 + (nI 203 + nI e).toNatClampNeg) (m7 (1000 + 12))) (2000 + (nI 209 + nI e).toNatClampNeg) (nI e)) (2000 + (nI 172).toNatClampNeg) (upd (upd m7 (2000 + (nI 203 + nI e).toNatClampNeg) (m7 (1000 + 12))) (2000 + (nI 209 + nI e).toNatClampNeg) (nI e) (2000 + (nI 172).toNatClampNeg) + nI 1) 1004 = mem 1004 := by rw [upd_ne (by omega), upd_ne (by omega), upd_ne (by omega), a2, j6]
    have k7 : upd (upd (upd m7 (2000 + (nI 203 + nI e).toNatClampNeg) (m7 (1000 + 12))) (2000 + (nI 209 + nI e).toNatClampNeg) (nI e)) (2000 + (nI 172).toNatClampNeg) (upd (upd m7 (2000 + (nI 203 + nI e).toNatClampNeg) (m7 (1000 + 12))) (2000 + (nI 209 + nI e).toNatClampNeg) (nI e) (2000 + (nI 172).toNatClampNeg) + nI 1) (2172 + (31 + e)) = nI v4 := by rw [upd_ne (by omega), upd_ne (by omega), show 2000 + (nI 203 + nI e).toNatClampNeg = 2172 + (31 + e) by omega, upd_eq]; exact a3
    have r7 : upd (upd (upd m7 (2000 + (nI 203 + nI e).toNatClampNeg) (m7 (1000 + 12))) (2000 + (nI 209 + nI e).toNatClampNeg) (nI e)) (2000 + (nI 172).toNatClampNeg) (upd (upd m7 (2000 + (nI 203 + nI e).toNatClampNeg) (m7 (1000 + 12))) (2000 + (nI 209 + nI e).toNatClampNeg) (nI e) (2000 + (nI 172).toNatClampNeg) + nI 1) (2172 + (37 + e)) = nI e := by rw [upd_ne (by omega), show 2000 + (nI 209 + nI e).toNatClampNeg = 2172 + (37 + e) by omega, upd_eq]
    have z7 : upd (upd (upd m7 (2000 + (nI 203 + nI e).toNatClampNeg) (m7 (1000 + 12))) (2000 + (nI 209 + nI e).toNatClampNeg) (nI e)) (2000 + (nI 172).toNatClampNeg) (upd (upd m7 (2000 + (nI 203 + nI e).toNatClampNeg) (m7 (1000 + 12))) (2000 + (nI 209 + nI e).toNatClampNeg) (nI e) (2000 + (nI 172).toNatClampNeg) + nI 1) (2172 + 0) = nI (e + 1) := by
      rw [v0, show nI e + nI 1 = nI (e + 1) from nI_add e 1]
      exact upd_eq
    have o8 : ∀ j, j < 43 → j ≠ 0 → j ≠ 31 + e → j ≠ 37 + e → upd (upd (upd m7 (2000 + (nI 203 + nI e).toNatClampNeg) (m7 (1000 + 12))) (2000 + (nI 209 + nI e).toNatClampNeg) (nI e)) (2000 + (nI 172).toNatClampNeg) (upd (upd m7 (2000 + (nI 203 + nI e).toNatClampNeg) (m7 (1000 + 12))) (2000 + (nI 209 + nI e).toNatClampNeg) (nI e) (2000 + (nI 172).toNatClampNeg) + nI 1) (2172 + j) = M5 (2172 + j) := fun j hj y0 y1 y2 => by rw [upd_ne (by omega), upd_ne (by omega), upd_ne (by omega), o7 j hj]
    generalize upd (upd (upd m7 (2000 + (nI 203 + nI e).toNatClampNeg) (m7 (1000 + 12))) (2000 + (nI 209 + nI e).toNatClampNeg) (nI e)) (2000 + (nI 172).toNatClampNeg) (upd (upd m7 (2000 + (nI 203 + nI e).toNatClampNeg) (m7 (1000 + 12))) (2000 + (nI 209 + nI e).toNatClampNeg) (nI e) (2000 + (nI 172).toNatClampNeg) + nI 1) = M7 at i7 G7 T7 j7 k7 r7 z7 o8 ⊢
    obtain ⟨wa, wb⟩ := zadd_wf (k := zkn b n p) (v1 := v1) (v2 := v2) (v3 := v3) (v4 := v4) wf hg (by omega) ⟨by omega, hkn⟩ (by omega) (by omega) ⟨l3, h3⟩ h4
    have hB7 : zHB M7 2172 (zadd g e (zkn b n p) v1 v2 v3 v4) := by
      refine hb.add hg (by omega) z7 ?_ ?_ ?_ ?_ k7 (fun j hj y0 y1 y2 y3 y4 y5 => ?_)
      · rw [o8 _ (by omega) (by omega) (by omega) (by omega), o5 _ (by omega) (by omega), o3 _ (by omega) (by omega), o1 _ (by omega) (by omega)]; exact k0
      · rw [o8 _ (by omega) (by omega) (by omega) (by omega), o5 _ (by omega) (by omega), o3 _ (by omega) (by omega)]; exact k1
      · rw [o8 _ (by omega) (by omega) (by omega) (by omega), o5 _ (by omega) (by omega)]; exact k3
      · rw [o8 _ (by omega) (by omega) (by omega) (by omega)]; exact k5
      · rw [o8 _ (by omega) y0 y5 (by omega), o5 _ (by omega) y4, o3 _ (by omega) y3, o1 _ (by omega) y2, o0 _ (by omega) y1]
    have hK7 : zRk M7 2172 (fun e => e) (e + 1) := fun x hx => by
      refine ⟨?_, hx⟩
      by_cases z : x = e
      · subst z
        rw [show 2172 + 37 + x = 2172 + (37 + x) by omega]; exact r7
      · have hm := (hr.2 x (by omega)).1
        rw [show 2000 + 172 + 37 + x = 2172 + (37 + x) by omega] at hm
        rw [show 2172 + 37 + x = 2172 + (37 + x) by omega, o8 _ (by omega) (by omega) (by omega) (by omega), o5 _ (by omega) (by omega), o3 _ (by omega) (by omega), o1 _ (by omega) (by omega), o0 _ (by omega) (by omega)]
        exact hm
    refine ok_takes (by omega) hk T7 B hp7 (by omega) (fun E4' hpn7 m8 a1 a2 a3 f8 => ⟨rfl, rfl, rfl, ?_⟩) (fun E4' m8 a1 a2 f8 => ⟨rfl, rfl, rfl, qF 1 _ (by omega) (fun k => by rw [hR, zrX_t E1 E1', zrX_t E2 E2', zrX_t E3 E3', zrX_g E4 E4']) m8 a1 a2 (G7.tr f8.y)⟩)
    refine qT (p7 + 1) _ (fun k => by rw [hR, zrX_t E1 E1', zrX_t E2 E2', zrX_t E3 E3', zrX_t E4 E4']) wa wb (by omega) m8 a1 (a2.trans j7) ?_ (G7.tr f8.y)
    exact zRw.same (show zRw M7 172 (zadd g e (zkn b n p) v1 v2 v3 v4) from ⟨hB7, by rw [wb]; exact hK7⟩) wa.1 (fun j hj => f8 _ (by omega) (by omega) (by omega) (by omega))
  · have c1 : ¬ nI (zkn b n p) = 0 := c1
    have c2 : nI e = nI 6 := c2
    rw [n0 (by omega)] at c1
    rw [nEq (by omega) (by omega)] at c2
    exact qF 3 p (by omega) (fun k => by unfold zrd; rw [if_neg c1, if_pos (by omega)]) _ (by rw [upd_ne (by omega), upd_eq]) (by rw [upd_eq]; exact t2) (fun x y1 y2 y3 y4 _ => by rw [upd_ne y3, upd_ne y1])
  · have c1 : nI (zkn b n p) = 0 := c1
    rw [n0 (by omega)] at c1
    exact qF 1 p (by omega) (fun k => by unfold zrd; rw [if_pos c1]) _ (by rw [upd_ne (by omega), upd_eq]) (by rw [upd_eq]; exact t2) (fun x y1 y2 y3 y4 _ => by rw [upd_ne y3, upd_ne y1])
theorem ok_takesDish {e : Nat} (hd : 2 < d) (hk : zML lk) (T : zTm mem b n p) (B : zby b n) (hp : p ≤ n) (hr : zRw mem 172 g) (wf : zWF g) (hg : g 0 = e)
    (qF : ∀ f p', f ≠ 0 → (∀ k, zrd b n e p g k = (f, p', z0)) → ∀ mem', mem' 1004 = nI f → mem' 1011 = nI p' → zyfr mem mem' → Q (some (.int (nI 0))) mem')
    (qT : ∀ p' g', (∀ k, zrd b n e p g k = k p' g') → zWF g' → g' 0 = e + 1 → p' ≤ n → ∀ mem', mem' 1010 = nI p' → mem' 1004 = mem 1004 → zRw mem' 172 g' → zyfr mem mem' → Q (some (.int (nI 1))) mem') : zOk X d 153 [.ref 1000] mem lk L lk L Q := by
  have mid := tdish_mid (X := X) (L := L) hd hk T B hp hr wf hg qF qT
  have e0 : mem (2000 + (nI 172).toNatClampNeg) = nI e := by
    have := hr.1.k 0 (by omega)
    rw [hg] at this
    exact this
  rw [← e0] at mid
  refine zOk_doc [17] 60 (tbl := tX8_takesDish) zck_153 rfl (by omega) (h := ?_)
  exact ⟨rfl, _, hk.1, Or.inl rfl, zwi0 (by omega), rfl, ok_here (by omega) hk T B hp (fun z => ok_mkindOf (by omega) B (Or.inl ⟨z, rfl⟩) mid) (fun z => ok_mkindOf (by omega) B (Or.inr ⟨z, rfl⟩) mid)⟩
theorem takesAll_loop (hd : 3 < d) (hk : zML lk) (B : zby b n) : ∀ m e p g mem, e + m = 7 → zTm mem b n p → p ≤ n → zRw mem 172 g → zWF g → g 0 = e →
    (∀ f p', f ≠ 0 → (if e ≠ 0 ∧ n ≤ p then (0, p, g) else zpD b n m e p g) = (f, p', z0) → ∀ mem', mem' 1004 = nI f → mem' 1011 = nI p' → zyfr mem mem' → Q (some (.int (nI 0))) mem') →
    (∀ p' g', (if e ≠ 0 ∧ n ≤ p then (0, p, g) else zpD b n m e p g) = (0, p', g') → zWF g' → 1 ≤ g' 0 → ∀ mem', mem' 1004 = mem 1004 → zRw mem' 172 g' → zyfr mem mem' → Q (some (.int (nI 1))) mem') →
    zE X d 154 9 [.ref 1000] [] mem lk L lk L Q := by
  have b1 := B.1
  intro m
  induction m with
  | zero =>
    intro e p g mem hem T hp hr wf hg qF qT
    have := wf.1
    omega
  | succ m ih =>
    intro e p g mem hem T hp hr wf hg qF qT
    have w0 := wf.1
    have e0 : mem (2000 + (nI 172).toNatClampNeg) = nI e := by
      have := hr.1.k 0 (by omega)
      rw [hg] at this
      exact this
    obtain ⟨t1, t2, t3⟩ := id T
    have t1' : mem (1000 + 3) = nI n := t1
    have t2' : mem (1000 + 10) = nI p := t2
    have dish : ¬ (e ≠ 0 ∧ n ≤ p) → ∀ (d' : Nat) (Q' : Option Value → zMem → Prop), 2 < d' → (∀ m', Q (some (.int (nI 0))) m' → Q' (some (.int (nI 0))) m') → (∀ m', zE X d 154 9 [.ref 1000] [] m' lk L lk L Q → Q' (some (.int (nI 1))) m') → zOk X d' 153 [.ref 1000] mem lk L lk L Q' := fun hz d' Q' hd' r0 r1 => by
      rw [if_neg hz] at qF qT
      refine ok_takesDish (by omega) hk T B hp hr wf hg (fun f p' hf E m1 a1 a2 f1 => r0 m1 (qF f p' hf (E _) m1 a1 a2 f1)) (fun p' g' E wf' hg' hp' m1 a1 a2 hr1 f1 => r1 m1 ?_)
      have hE : zpD b n (m + 1) e p g = (if n ≤ p' then (0, p', g') else zpD b n m (e + 1) p' g') := E _
      rw [hE] at qF qT
      have hq : (if e + 1 ≠ 0 ∧ n ≤ p' then ((0, p', g') : Nat × Nat × zH) else zpD b n m (e + 1) p' g') = (if n ≤ p' then (0, p', g') else zpD b n m (e + 1) p' g') := by
        by_cases z : n ≤ p'
        · rw [if_pos z, if_pos ⟨by omega, z⟩]
        · rw [if_neg z, if_neg (fun y => z y.2)]
      exact ih (e + 1) p' g' m1 (by omega) (T.y b1 a1 f1) hp' hr1 wf' hg' (by rw [hq]; exact fun f p'' hf E2 m2 c1 c2 f2 => qF f p'' hf E2 m2 c1 c2 (f1.tr f2)) (by rw [hq]; exact fun p'' g'' E2 wf2 h2 m2 c2 hr2 f2 => qT p'' g'' E2 wf2 h2 m2 (c2.trans a2) hr2 (f1.tr f2))
    refine zE_do 60 9 (tbl := tX8_takesAll) zck_154 rfl (h := ?_)
    refine ⟨rfl, _, hk.1, Or.inl rfl, zwi0 (by omega), fun c => ⟨rfl, ?_⟩, fun c => ⟨rfl, rfl, fun c2 => ⟨rfl, rfl, rfl, ?_⟩, fun c2 => ⟨rfl, ?_⟩⟩⟩
    · have c : mem (2000 + (nI 172).toNatClampNeg) = 0 := c
      rw [e0, n0 (by omega)] at c
      exact dish (fun z => z.1 c) _ _ (by omega) (fun m' h => zF_ne ⟨rfl, rfl, rfl, h⟩) (fun m' h => zT_ne h)
    · have c : ¬ mem (2000 + (nI 172).toNatClampNeg) = 0 := c
      have c2 : mem (1000 + 3) ≤ mem (1000 + 10) := c2
      rw [e0, n0 (by omega)] at c
      rw [t1', t2', nLe (by omega) (by omega)] at c2
      exact qT p g (if_pos ⟨c, c2⟩) wf (by omega) mem rfl hr zyfr.rf
    · have c : ¬ mem (2000 + (nI 172).toNatClampNeg) = 0 := c
      have c2 : ¬ mem (1000 + 3) ≤ mem (1000 + 10) := c2
      rw [e0, n0 (by omega)] at c
      rw [t1', t2', nLe (by omega) (by omega)] at c2
      exact dish (fun z => c2 z.2) _ _ (by omega) (fun m' h => zF_ne ⟨rfl, rfl, rfl, h⟩) (fun m' h => zT_ne h)
theorem ok_takesAll (hd : 4 < d) (hk : zML lk) (B : zby b n) (T : zTm mem b n 0) (hb : zHB mem 2172 (zbare 0 0 0))
    (qF : ∀ f p', f ≠ 0 → zparse b n = (f, p', z0) → ∀ mem', mem' 1004 = nI f → mem' 1011 = nI p' → zyfr mem mem' → Q (some (.int (nI 0))) mem')
    (qT : ∀ p' g', zparse b n = (0, p', g') → zWF g' → 1 ≤ g' 0 → ∀ mem', mem' 1004 = mem 1004 → zRw mem' 172 g' → zyfr mem mem' → Q (some (.int (nI 1))) mem') : zOk X d 154 [.ref 1000] mem lk L lk L Q := by
  have b1 := B.1
  refine zOk_do 40 (tbl := tX8_takesAll) zck_154 rfl (by omega) (h := ?_)
  refine ⟨rfl, ok_takesLaw (by omega) hk T B hb (fun f p' hf E m1 a1 a2 f1 => zF_ne ⟨rfl, rfl, rfl, qF f p' hf (E _) m1 a1 a2 f1⟩) (fun p' g' E wf hg hp m1 a1 a2 hb1 f1 => zT_ne ?_)⟩
  have hz : zparse b n = zpD b n 7 0 p' g' := E _
  have hq : (if (0 : Nat) ≠ 0 ∧ n ≤ p' then ((0, p', g') : Nat × Nat × zH) else zpD b n 7 0 p' g') = zpD b n 7 0 p' g' := if_neg (fun y => y.1 rfl)
  rw [hz] at qF qT
  exact takesAll_loop (by omega) hk B 7 0 p' g' m1 (by omega) (T.y b1 a1 f1) hp ⟨hb1, fun x hx => by rw [hg] at hx; omega⟩ wf hg (by rw [hq]; exact fun f p'' hf E2 m2 c1 c2 f2 => qF f p'' hf E2 m2 c1 c2 (f1.tr f2)) (by rw [hq]; exact fun p'' g'' E2 wf2 h2 m2 c2 hr2 f2 => qT p'' g'' E2 wf2 h2 m2 (c2.trans a2) hr2 (f1.tr f2))
/-- what a telling of the reference leaves -/
def zvfr (mem mem' : zMem) : Prop := ∀ x, x ≠ 1003 → x ≠ 1004 → x ≠ 1010 → x ≠ 1011 → x ≠ 1012 → ¬ (2172 ≤ x ∧ x < 2172 + 43) → mem' x = mem x
theorem zvfr.tr {m1 m2 m3 : zMem} (h : zvfr m1 m2) (h' : zvfr m2 m3) : zvfr m1 m3 := fun x a b c e f i => (h' x a b c e f i).trans (h x a b c e f i)
theorem zyfr.v {m1 m2 : zMem} (h : zyfr m1 m2) : zvfr m1 m2 := fun x _ a b c e f => h x a b c e f
theorem mhouse_loop (hd : 5 < d) (hk : zML lk) (B : zby b n) (h1 : mem 1003 = nI n) (h2 : ∀ i, i < n → mem (3300 + i) = nI (b i))
    (qF : ∀ f p', f ≠ 0 → zparse b n = (f, p', z0) → ∀ mem', mem' 1003 = nI 0 → mem' 1004 = nI f → zvfr mem mem' → Q (some (.int (-(nI 1000100) - nI p'))) mem')
    (qT : ∀ p' g', zparse b n = (0, p', g') → zWF g' → 1 ≤ g' 0 → ∀ mem', mem' 1003 = nI 0 → mem' 1004 = mem 1004 → zRw mem' 0 g' → mem' 1001 = nI 0 → (∀ x, x ≠ 1001 → x ≠ 1003 → x ≠ 1004 → x ≠ 1010 → x ≠ 1011 → x ≠ 1012 → ¬ (2172 ≤ x ∧ x < 2172 + 43) → ¬ (2000 ≤ x ∧ x < 2043) → mem' x = mem x) → Q (some (.int (nI (g' 0)))) mem') : ∀ m j m1 , j + m = 43 → (∀ i, i < j → m1 (2172 + i) = nI 0) → zyfr mem m1 → m1 1004 = mem 1004 → zE X d 155 2 [.ref 1000, .int (nI j)] [] m1 lk L lk L Q := by
  have b1 := B.1
  intro m
  induction m with
  | zero =>
    intro j m1 hj hz f1 a4
    have c1 : nI 43 ≤ nI j := by rw [nLe (by omega) (by omega)]; omega
    have G2 : zyfr mem (upd (upd m1 (2000 + (nI 177).toNatClampNeg) (nI 1)) (1000 + 10) (nI 0)) := (f1.tr (zyfr.up (by show 2172 ≤ 2177 ∧ 2177 < _; omega))).tr zyfr.up2
    have e4 : upd (upd m1 (2000 + (nI 177).toNatClampNeg) (nI 1)) (1000 + 10) (nI 0) 1004 = mem 1004 := by rw [upd_ne (by omega), upd_ne (by show 1004 ≠ 2177; omega)]; exact a4
    have e10 : upd (upd m1 (2000 + (nI 177).toNatClampNeg) (nI 1)) (1000 + 10) (nI 0) 1010 = nI 0 := upd_eq
    have hb : zHB (upd (upd m1 (2000 + (nI 177).toNatClampNeg) (nI 1)) (1000 + 10) (nI 0)) 2172 (zbare 0 0 0) := by
      refine ⟨fun k hk => ?_, fun f e _ he => absurd (show e < 0 from he) (Nat.not_lt_zero e)⟩
      rw [upd_ne (by omega)]
      by_cases z : k = 5
      · subst z
        show upd m1 2177 (nI 1) 2177 = _
        rw [upd_eq]; rfl
      · rw [upd_ne (show 2172 + k ≠ 2000 + (nI 177).toNatClampNeg from (show 2172 + k ≠ 2177 by omega)), hz k (by omega)]
        unfold zbare
        rcases (by omega : k = 0 ∨ k = 1 ∨ k = 2 ∨ k = 3 ∨ k = 4 ∨ k = 6) with y | y | y | y | y | y <;> subst y <;> rfl
    have T : zTm (upd (upd m1 (2000 + (nI 177).toNatClampNeg) (nI 1)) (1000 + 10) (nI 0)) b n 0 := ⟨by rw [G2 _ (by omega) (by omega) (by omega) (by omega) (by omega)]; exact h1, e10, fun i hi => by rw [G2 _ (by omega) (by omega) (by omega) (by omega) (by omega)]; exact h2 i hi⟩
    refine zE_do 60 2 (tbl := tX8_house) zck_155 rfl (h := ?_)
    refine ⟨fun _ => ⟨rfl, _, hk.1, rfl, zwi0 (by omega), rfl, rfl, ok_takesAll (by omega) hk B T hb (fun f p' hf E m2 a1 a2 f2 => ⟨rfl, zF_ne ⟨rfl, rfl, rfl, ?_⟩⟩) (fun p' g' E wf hg m2 a1 hr f2 => ⟨rfl, zT_ne ⟨rfl, ok_copyOf (a := 172) (b := 0) (by omega) (by omega) (by omega) (by omega) hk.1 (fun m3 hc hf => ⟨rfl, rfl, _, hk.1, Or.inl rfl, zwi0 (by omega), rfl, rfl, ?_⟩)⟩⟩)⟩, fun c => absurd c1 c⟩
    · have pq := qF f p' hf E (upd m2 (1000 + 3) (nI 0)) upd_eq (by rw [upd_ne (by omega)]; exact a1) (fun x y0 y1 y2 y3 y4 y5 => by rw [upd_ne y0, f2 x y1 y2 y3 y4 y5, G2 x y1 y2 y3 y4 y5])
      have e11 : upd m2 (1000 + 3) (nI 0) (1000 + 11) = nI p' := by rw [upd_ne (by omega)]; exact a2
      rw [← e11] at pq
      exact pq
    · have ha : zRw (upd m2 (1000 + 3) (nI 0)) 172 g' := hr.same wf.1 (fun j hj => upd_ne (by omega))
      have hr3 : zRw (upd m3 (1000 + 1) (nI 0)) 0 g' := zRw.same (ha.cp (b := 0) wf.1 (fun k hk => hc k hk)) wf.1 (fun j hj => upd_ne (by omega))
      have pq := qT p' g' E wf hg (upd m3 (1000 + 1) (nI 0)) (by rw [upd_ne (by omega), hf _ (by omega)]; exact upd_eq) (by rw [upd_ne (by omega), hf _ (by omega), upd_ne (by omega), a1, e4]) hr3 upd_eq (fun x y7 y0 y1 y2 y3 y4 y5 y6 => by rw [upd_ne y7, hf x (by omega), upd_ne y0, f2 x y1 y2 y3 y4 y5, G2 x y1 y2 y3 y4 y5])
      have e0 : upd m3 (1000 + 1) (nI 0) (2000 + (nI 0).toNatClampNeg) = nI (g' 0) := hr3.1.k 0 (by omega)
      rw [← e0] at pq
      exact pq
  | succ m ih =>
    intro j m1 hj hz f1 a4
    have c1 : ¬ nI 43 ≤ nI j := by rw [nLe (by omega) (by omega)]; omega
    have ea : 2000 + (nI 172 + nI j).toNatClampNeg = 2172 + j := by rw [nI_add, nC (by omega)]; omega
    have k := ih (j + 1) (upd m1 (2000 + (nI 172 + nI j).toNatClampNeg) (nI 0)) (by omega) (fun i hi => by
      by_cases z : i = j
      · subst z; rw [ea, upd_eq]
      · rw [upd_ne (by omega)]; exact hz i (by omega)) (f1.tr (zyfr.up (by omega))) (by rw [upd_ne (by omega)]; exact a4)
    rw [show nI (j + 1) = nI j + nI 1 from (nI_add j 1).symm] at k
    refine zE_do 60 2 (tbl := tX8_house) zck_155 rfl (h := ?_)
    exact ⟨fun c => absurd c c1, fun _ => ⟨rfl, _, hk.1, rfl, zwi1 (by omega), k⟩⟩
theorem ok_mhouse (hd : 5 < d) (hk : zML lk) (B : zby b n) (h1 : mem 1003 = nI n) (h2 : ∀ i, i < n → mem (3300 + i) = nI (b i))
    (qF : ∀ f p', f ≠ 0 → zparse b n = (f, p', z0) → ∀ mem', mem' 1003 = nI 0 → mem' 1004 = nI f → zvfr mem mem' → Q (some (.int (-(nI 1000100) - nI p'))) mem')
    (qT : ∀ p' g', zparse b n = (0, p', g') → zWF g' → 1 ≤ g' 0 → ∀ mem', mem' 1003 = nI 0 → mem' 1004 = mem 1004 → zRw mem' 0 g' → mem' 1001 = nI 0 → (∀ x, x ≠ 1001 → x ≠ 1003 → x ≠ 1004 → x ≠ 1010 → x ≠ 1011 → x ≠ 1012 → ¬ (2172 ≤ x ∧ x < 2172 + 43) → ¬ (2000 ≤ x ∧ x < 2043) → mem' x = mem x) → Q (some (.int (nI (g' 0)))) mem') : zOk X d 155 [.ref 1000] mem lk L lk L Q := by
  refine zOk_do 20 (tbl := tX8_house) zck_155 rfl (by omega) (h := ?_)
  exact mhouse_loop hd hk B h1 h2 qF qT 43 0 mem (by omega) (fun i hi => by omega) zyfr.rf rfl
end MH
