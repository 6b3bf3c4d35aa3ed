/-! the steps house, image, stuck -/
/-! a house that is told stands at minute 0 -/
def zP6 (r : Nat × Nat × zH) : Prop := r.2.2 6 = 0
theorem zrB_6 {b : Nat → Nat} {n p c : Nat} {k : Nat → Nat × Nat × zH} (h : ∀ p, zP6 (k p)) : zP6 (zrB b n p c k) := by
  unfold zrB; split
  · exact h _
  · rfl
theorem zrN_6 {b : Nat → Nat} {n p lo hi : Nat} {k : Nat → Nat → Nat × Nat × zH} (h : ∀ p v, zP6 (k p v)) : zP6 (zrN b n p lo hi k) := by
  unfold zrN; split
  · rfl
  · split
    · rfl
    · exact h _ _
theorem zrX_6 {b : Nat → Nat} {n p lo hi c : Nat} {k : Nat → Nat → Nat × Nat × zH} (h : ∀ p v, zP6 (k p v)) : zP6 (zrX b n p lo hi c k) := zrN_6 (fun _ v => zrB_6 (fun p => h p v))
theorem zadd_6 {g : zH} {d k v1 v2 v3 v4 : Nat} : zadd g d k v1 v2 v3 v4 6 = g 6 := by
  unfold zadd
  rw [zup_ne (by omega), zup_ne (by omega), zup_ne (by omega), zup_ne (by omega), zup_ne (by omega), zup_ne (by omega)]
theorem zrd_6 {b : Nat → Nat} {n d p : Nat} {g : zH} {k : Nat → zH → Nat × Nat × zH} (hg : g 6 = 0) (h : ∀ p g', g' 6 = 0 → zP6 (k p g')) : zP6 (zrd b n d p g k) := by
  unfold zrd; split
  · rfl
  · split
    · rfl
    · exact zrX_6 (fun _ _ => zrX_6 (fun _ _ => zrX_6 (fun _ _ => zrX_6 (fun _ _ => h _ _ (zadd_6.trans hg)))))
theorem zpD_6 {b : Nat → Nat} {n : Nat} : ∀ m d p g, g 6 = 0 → zP6 (zpD b n m d p g)
  | 0, _, _, _, _ => rfl
  | m + 1, d, p, g, hg => zrd_6 hg (fun p' g' hg' => by
    show zP6 (if n ≤ p' then (0, p', g') else zpD b n m (d + 1) p' g')
    split
    · exact hg'
    · exact zpD_6 m _ _ _ hg')
theorem zparse_6 {b : Nat → Nat} {n : Nat} : zP6 (zparse b n) := zrB_6 (fun _ => zrX_6 (fun _ _ => zrX_6 (fun _ _ => zrX_6 (fun _ _ => zpD_6 7 0 _ _ (by rfl)))))
section S5
variable {X : Nat} {xs : Nat → Int32} {nx u : Nat} {g : zH} {gs : Nat → zH} {im : Nat → Option zH} {b : Nat → Nat} {t : Nat} {mem mem' : zMem} {lk lk' : zLk} {L L' : List Nat}
theorem zInv.hs (I : zInv X xs nx u g gs im b t mem lk L) (hX : X ≤ 3072) {u' : Nat} {g' : zH} (hN : zNow g') (hu : u' = 0 ∨ u' = u) (e1 : mem' 531 = nI 0) (e2 : mem' 1003 = nI 0) (e3 : mem' 533 = mem' 1004) (e4 : mem' 662 = nI u') (e5 : mem' 1001 = nI u') (hb : zHB mem' 10000 g') (hr : zRw mem' 0 g')
    (ff : ∀ x, ¬ (531 ≤ x ∧ x < 535) → ¬ (10000 ≤ x ∧ x < 10037) → ¬ (10064 ≤ x ∧ x < 10101) → x ≠ 662 → x ≠ 1001 → x ≠ 1003 → x ≠ 1004 → ¬ (1010 ≤ x ∧ x ≤ 1012) → ¬ (2172 ≤ x ∧ x < 2215) → ¬ (2000 ≤ x ∧ x < 2043) → mem' x = mem x) : zInv X xs nx u' g' gs im b 0 mem' lk L := by
  obtain ⟨s, c, m, r, Ca, st, sx⟩ := I
  have gf : ∀ x, (x < 531 ∨ 535 ≤ x) → (x < 10000 ∨ 10037 ≤ x) → (x < 10064 ∨ 10101 ≤ x) → x ≠ 662 → x ≠ 1001 → (x < 1003 ∨ 1012 < x ∨ (1004 < x ∧ x < 1010)) → (x < 2172 ∨ 2215 ≤ x) → (x < 2000 ∨ 2043 ≤ x) → mem' x = mem x := fun x a b c d e f g h => ff x (by omega) (by omega) (by omega) d e (by omega) (by omega) (by omega) (by omega) (by omega)
  clear ff
  obtain ⟨c1, c2, c3, c4, c5, c6, c7, c8⟩ := c
  obtain ⟨m1, m2, m3, m4, m5, m6⟩ := m
  have i6 : ∀ k gk, k < 2 → im k = some gk → gk 0 ≤ 6 := fun k gk hk hg => ((c5 k hk).2 gk hg).2.2.2.1.1
  obtain ⟨a1, a2, a3, a4, a5, a6, a7, a8⟩ := c4
  refine ⟨⟨hN, fun k hk => s.2.1 k (by omega), by omega, fun i hi => by omega⟩, ⟨c1, c2, hb, ⟨a1, by omega, ?_, e4, a5, a6, a7, fun k hk => ?_⟩, c5.sm (fun x x1 x2 => gf x (by omega) (by omega) (by omega) (by omega) (by omega) (by omega) (by omega) (by omega)), c6, e1, fun i hi => by omega⟩, ⟨m1, hr, ⟨by omega, e5, fun k hk => ?_⟩, m4.sm i6 (fun x x1 x2 => gf x (by omega) (by omega) (by omega) (by omega) (by omega) (by omega) (by omega) (by omega)) (fun x x1 x2 => gf x (by omega) (by omega) (by omega) (by omega) (by omega) (by omega) (by omega) (by omega)), e2, fun i hi => by omega⟩, ?_, Ca.sm (gf _ (by omega) (by omega) (by omega) (by omega) (by omega) (by omega) (by omega) (by omega)) (gf _ (by omega) (by omega) (by omega) (by omega) (by omega) (by omega) (by omega) (by omega)) (fun x x1 x2 => gf x (by omega) (by omega) (by omega) (by omega) (by omega) (by omega) (by omega) (by omega)) (fun x x1 x2 => gf x (by omega) (by omega) (by omega) (by omega) (by omega) (by omega) (by omega) (by omega)), st.sm (fun x x1 x2 => gf x (by omega) (by omega) (by omega) (by omega) (by omega) (by omega) (by omega) (by omega)), fun i hi => ?_⟩
  · rw [gf _ (by omega) (by omega) (by omega) (by omega) (by omega) (by omega) (by omega) (by omega)]; exact a3
  · obtain ⟨b1, b2, b3⟩ := a8 k (by omega)
    have : (nx + 23 - k) % 24 < 24 := Nat.mod_lt _ (by omega)
    exact ⟨b1, b2.same b3.1 (fun j hj => gf _ (by unfold zAH; omega) (by unfold zAH; omega) (by unfold zAH; omega) (by unfold zAH; omega) (by unfold zAH; omega) (by unfold zAH; omega) (by unfold zAH; omega) (by unfold zAH; omega)), b3⟩
  · have hu : u' = u := by omega
    subst hu
    obtain ⟨b1, b2⟩ := m3.2.2 k (by omega)
    exact ⟨b1.same b2.1 (fun j hj => gf _ (by omega) (by omega) (by omega) (by omega) (by omega) (by omega) (by omega) (by omega)), b2⟩
  · obtain ⟨⟨rl, rn, ri, h1, h2, h3⟩, h4, h5, l, h6, h7⟩ := r
    refine ⟨⟨rl, rn, ri, h1.fr (fun x x1 x2 => gf x (by omega) (by omega) (by omega) (by omega) (by omega) (by omega) (by omega) (by omega)), h2.fr (fun x x1 x2 => gf x (by omega) (by omega) (by omega) (by omega) (by omega) (by omega) (by omega) (by omega)), h3⟩, ?_, e3, l, h6.sm (gf _ (by omega) (by omega) (by omega) (by omega) (by omega) (by omega) (by omega) (by omega)) (fun x x1 x2 => gf x (by omega) (by omega) (by omega) (by omega) (by omega) (by omega) (by omega) (by omega)), h7.sm (gf _ (by omega) (by omega) (by omega) (by omega) (by omega) (by omega) (by omega) (by omega)) (fun x x1 x2 => gf x (by omega) (by omega) (by omega) (by omega) (by omega) (by omega) (by omega) (by omega))⟩
    rw [gf 109 (by omega) (by omega) (by omega) (by omega) (by omega) (by omega) (by omega) (by omega), gf 1005 (by omega) (by omega) (by omega) (by omega) (by omega) (by omega) (by omega) (by omega)]; exact h4
  · rw [gf _ (by omega) (by omega) (by omega) (by omega) (by omega) (by omega) (by omega) (by omega)]; exact sx i hi
theorem ex_house {s : zSg} (hX : X ≤ 3072) : zEy X xs 96 155 [.ref 100] [.ref 1000] s lk L := by
  obtain ⟨nx, u, g, gs, im, b, t⟩ := s
  obtain ⟨f, p, gp, ep⟩ : ∃ f p gp, zparse b t = (f, p, gp) := ⟨_, _, _, rfl⟩
  by_cases z : f = 0
  · subst z
    refine ⟨(nx, 0, gp, gs, im, b, 0), fun mem d Q I hd K => ?_⟩
    have I : zInv X xs nx u g gs im b t mem lk L := I
    have tt := I.1.2.2.1
    refine ok_house (by omega) I.ks (I.h 1 (by omega)) (I.h 0 (by omega)) I.1.2.2 I.2.1.2.2.2.2.2.2.1 I.2.1.2.2.2.2.2.2.2 (fun f' p' hf' e' => ?_) (fun p' g' e' w1 w2 m1 a1 a2 a3 a4 f1 => ?_)
    · rw [ep] at e'; exact absurd (congrArg Prod.fst e').symm hf'
    · rw [ep] at e'
      cases e'
      refine K _ m1 (fun d' Q' hd' q' => ok_mhouse (by omega) I.ml I.1.2.2 (by rw [f1 _ (by omega) (by omega) (by omega) (by omega)]; exact I.2.2.1.2.2.2.2.1) (fun i hi => by rw [f1 _ (by omega) (by omega) (by omega) (by omega)]; exact I.2.2.1.2.2.2.2.2 i hi) (fun f' p' hf' e' => ?_) (fun p' g' e' w1' w2' m2 b1 b2 b3 b4 f2 => ?_))
      · rw [ep] at e'; exact absurd (congrArg Prod.fst e').symm hf'
      · rw [ep] at e'
        cases e'
        have w0 := w1.1
        have h6 : gp 6 ≤ 999 := by
          have z6 := zparse_6 (b := b) (n := t)
          rw [ep] at z6
          have z6 : gp 6 = 0 := z6
          omega
        refine q' m2 (I.hs hX (Or.inl ⟨w1, w2, h6⟩) (Or.inl rfl) ?_ b1 ?_ ?_ b4 ?_ b3 (fun x x1 x2 x3 x4 x5 x6 x7 x8 x9 x10 => ?_))
        · rw [f2 _ (by omega) (by omega) (by omega) (by omega) (by omega) (by omega) (by omega) (by omega)]; exact a1
        · rw [f2 533 (by omega) (by omega) (by omega) (by omega) (by omega) (by omega) (by omega) (by omega), b2, f1 1004 (by omega) (by omega) (by omega) (by omega), a2]; exact I.rs.2.2.1
        · rw [f2 _ (by omega) (by omega) (by omega) (by omega) (by omega) (by omega) (by omega) (by omega)]; exact a4
        · exact a3.same w0 (fun j hj => f2 _ (by omega) (by omega) (by omega) (by omega) (by omega) (by omega) (by omega) (by omega))
        · rw [f2 x x5 x6 x7 (by omega) (by omega) (by omega) (by omega) x10, f1 x x1 x2 x3 x4]
  · refine ⟨(nx, u, g, gs, im, b, 0), fun mem d Q I hd K => ?_⟩
    have I : zInv X xs nx u g gs im b t mem lk L := I
    have tt := I.1.2.2.1
    refine ok_house (by omega) I.ks (I.h 1 (by omega)) (I.h 0 (by omega)) I.1.2.2 I.2.1.2.2.2.2.2.2.1 I.2.1.2.2.2.2.2.2.2 (fun f' p' hf' e' m1 a1 a2 f1 => ?_) (fun p' g' e' => ?_)
    · rw [ep] at e'
      cases e'
      refine K _ m1 (fun d' Q' hd' q' => ok_mhouse (by omega) I.ml I.1.2.2 (by rw [f1 _ (by omega) (by omega)]; exact I.2.2.1.2.2.2.2.1) (fun i hi => by rw [f1 _ (by omega) (by omega)]; exact I.2.2.1.2.2.2.2.2 i hi) (fun f' p' hf' e' m2 b1 b2 f2 => ?_) (fun p' g' e' => ?_))
      · rw [ep] at e'
        cases e'
        have w0 := I.n.le.1
        refine q' m2 (I.hs hX I.n (Or.inr rfl) ?_ b1 ?_ ?_ ?_ ?_ ?_ (fun x x1 x2 x3 x4 x5 x6 x7 x8 x9 x10 => ?_))
        · rw [f2 _ (by omega) (by omega) (by omega) (by omega) (by omega) (by omega)]; exact a1
        · rw [f2 533 (by omega) (by omega) (by omega) (by omega) (by omega) (by omega), a2, b2]
        · rw [f2 _ (by omega) (by omega) (by omega) (by omega) (by omega) (by omega), f1 _ (by omega) (by omega)]; exact I.2.1.2.2.2.1.2.2.2.1
        · rw [f2 _ (by omega) (by omega) (by omega) (by omega) (by omega) (by omega), f1 _ (by omega) (by omega)]; exact I.2.2.1.2.2.1.2.1
        · exact I.hb.same w0 (fun j hj => by rw [f2 _ (by omega) (by omega) (by omega) (by omega) (by omega) (by omega), f1 _ (by omega) (by omega)])
        · exact I.rw.same w0 (fun j hj => by rw [f2 _ (by omega) (by omega) (by omega) (by omega) (by omega) (by omega), f1 _ (by omega) (by omega)])
        · rw [f2 x x6 x7 (by omega) (by omega) (by omega) (by omega), f1 x x1 x3]
      · rw [ep] at e'; exact absurd (congrArg Prod.fst e') z
    · rw [ep] at e'; exact absurd (congrArg Prod.fst e') z
/-- links outside the rows of houses from i0 to i1 stay -/
def zlkR (lo hi i0 i1 : Nat) (lk lk' : zLk) (L L' : List Nat) : Prop := ((700 ≤ lo ∧ hi ≤ 702) ∨ (720 ≤ lo ∧ hi ≤ 729)) ∧ 29 ≤ i0 ∧ (∀ x, ¬ (lo ≤ x ∧ x < hi) → ¬ (10000 + 64 * i0 ≤ x ∧ x < 10000 + 64 * i1) → lk' x = lk x) ∧ ∀ x, x ∈ L' → x ∈ L ∨ (10000 + 64 * i0 ≤ x ∧ x < 10000 + 64 * i1)
section R
variable {lo hi i0 i1 : Nat}
theorem zlkR.ks (h : zlkR lo hi i0 i1 lk lk' L L') (k : zKs lk) : zKs lk' := by
  obtain ⟨h1, h2, h3, -⟩ := h
  refine ⟨fun p hp => ?_, fun j hj => ?_⟩
  · have h7 : (p.1 < 700 ∨ (702 ≤ p.1 ∧ p.1 < 720) ∨ 729 ≤ p.1) ∧ p.1 < 10000 := (by decide : ∀ p, p ∈ zKl → (p.1 < 700 ∨ (702 ≤ p.1 ∧ p.1 < 720) ∨ 729 ≤ p.1) ∧ p.1 < 10000) p hp
    rw [h3 _ (by omega) (by omega)]; exact k.1 p hp
  · rw [h3 _ (by omega) (by omega)]; exact k.2 j hj
theorem zlkR.ml (h : zlkR lo hi i0 i1 lk lk' L L') (m : zML lk) : zML lk' := by
  obtain ⟨h1, h2, h3, -⟩ := h
  obtain ⟨a1, a2, a3, a4, a5, a6, a7, a8, a9, a10, a11⟩ := m
  refine ⟨?_, ?_, ?_, ?_, ?_, ?_, ?_, ?_, ?_, ?_, ?_⟩ <;> (rw [h3 _ (by omega) (by omega)]; assumption)
theorem zlkR.ho (h : zlkR lo hi i0 i1 lk lk' L L') {i : Nat} (hi : i < i0 ∨ i1 ≤ i) (ho : zHo lk (10000 + 64 * i)) : zHo lk' (10000 + 64 * i) := ho.lb (b := 0) (fun x x1 x2 => h.2.2.1 x (by have := h.1; omega) (by omega))
theorem zlkR.acts (h : zlkR lo hi i0 i1 lk lk' L L') (A : zActs mem lk L nx u gs) : zActs mem lk' L' nx u gs := by
  have ho := fun i hi => h.ho (i := i) hi
  obtain ⟨h1, h2, h3, h4⟩ := h
  obtain ⟨a1, a2, a3, a4, a5, a6, a7, a8⟩ := A
  refine ⟨a1, a2, a3, a4, by rw [h3 _ (by omega) (by omega)]; exact a5, fun s hs => ?_, fun s hs e j hj z => ?_, fun k hk => ?_⟩
  · rw [h3 _ (by omega) (by omega)]
    exact (a6 s hs).imp id (fun y => ⟨y.1, ho (5 + s) (by omega) y.2⟩)
  · rw [h3 _ (by omega) (by omega)] at e
    rcases h4 _ z with y | y
    · exact a7 s hs e j hj y
    · unfold zAH at y; omega
  · have : (nx + 23 - k) % 24 < 24 := Nat.mod_lt _ (by omega)
    rw [h3 _ (by omega) (by omega)]; exact a8 k hk
theorem zlkR.line (h : zlkR lo hi i0 i1 lk lk' L L') (h7 : hi ≤ 702) (hi1 : i1 ≤ 31) (l : zLine lk L) : zLine lk' L' := fun j hj => by
  rcases l j hj with ⟨a, c⟩ | ⟨a, c⟩
  · refine Or.inl ⟨by rw [h.2.2.1 _ (by omega) (by omega)]; exact a, fun i hi z => ?_⟩
    rcases h.2.2.2 _ z with y | y
    · exact c i hi y
    · unfold zLH at y; omega
  · exact Or.inr ⟨by rw [h.2.2.1 _ (by omega) (by omega)]; exact a, h.ho (i := 31 + j) (by omega) c⟩
theorem zlkR.img (h : zlkR lo hi i0 i1 lk lk' L L') (h7 : 720 ≤ lo) (hi1 : 31 ≤ i0) (I : zImg mem lk L im) : zImg mem lk' L' im := fun k hk => by
  refine ⟨fun z => ⟨by rw [h.2.2.1 _ (by omega) (by omega)]; exact ((I k hk).1 z).1, fun j hj y => ?_⟩, fun gk hg => ?_⟩
  · rcases h.2.2.2 _ y with w | w
    · exact ((I k hk).1 z).2 j hj w
    · unfold zIH at w; omega
  · obtain ⟨b1, b2, b3⟩ := (I k hk).2 gk hg
    exact ⟨by rw [h.2.2.1 _ (by omega) (by omega)]; exact b1, h.ho (i := 29 + k) (by omega) b2, b3⟩
end R
theorem zlkR.ig {k : Nat} (hk : k < 2) : zlkR (700 + k) (701 + k) (29 + k) (30 + k) lk (nwK (700 + k) (zIH k) lk) L (nwL (700 + k) (zIH k) lk L) := by
  refine ⟨by omega, by omega, fun x h1 h2 => nwK_ne (i := 29 + k) (by omega) (by omega), fun x hx => ?_⟩
  rcases nwL_in hx with z | z
  · exact Or.inl z
  · exact Or.inr (by unfold zIH at z; omega)
theorem zlkR.e {n : Nat} (hn : n ≤ 9) : zlkR 720 729 31 40 lk (eK lk L n) L (eL lk L n) := by
  refine ⟨by omega, by omega, fun x h1 h2 => eK_ne (by omega) (by unfold zLH; omega) n hn, fun x hx => ?_⟩
  rcases eL_in n hx with z | z
  · exact Or.inl z
  · exact Or.inr (by unfold zLH at z; omega)
theorem ex_image {x : Int32} {s : zSg} (hX : X ≤ 3072) : zEx X xs 120 201 [.ref 100, .int x] [.ref 1000, .int x] s lk L := by
  obtain ⟨nx, u, g, gs, im, b, t⟩ := s
  by_cases z : ∃ k, k < 2 ∧ x = nI k ∧ 0 < g 0
  · obtain ⟨k, hk, ex, h0⟩ := z
    refine ⟨(nx, u, g, gs, va_up im k (some g), b, t), nwK (700 + k) (zIH k) lk, nwL (700 + k) (zIH k) lk L, nwL_le _ _ _ _, zpot_nw (i := 29 + k) (Or.inr (Or.inl (by omega))), fun mem d Q I hd K => ?_⟩
    have I : zInv X xs nx u g gs im b t mem lk L := I
    have hx := nTx ex (by omega)
    have wf := I.n.wf h0
    have w0 := wf.1.1
    have tt := I.1.2.2.1
    have i6 := I.2.1.im6
    have R := zlkR.ig (lk := lk) (L := L) hk
    refine ok_image (by omega) I.ks (I.h 0 (by omega)) I.hb I.n I.2.1.2.2.2.2.1 (nwL_le _ _ _ _) (fun c => by omega) (fun k' hk' ex' h0' => by omega) (fun k' hk' ex' h0' => ?_)
    have j := nJ ex ex' (by omega) (by omega)
    subst j
    refine ⟨⟨rfl, rfl⟩, fun m1 hb1 f1 => K _ m1 (fun d' Q' hd' q' => ?_)⟩
    have g1 : ∀ x, x < 11856 + 64 * k ∨ 11856 + 64 * k + 64 ≤ x → m1 x = mem x := fun x hx => f1 x (by unfold zIH; omega)
    have MI : zMImg m1 im := I.2.2.1.2.2.2.1.sm i6 (fun x x1 x2 => g1 x (by omega)) (fun x x1 x2 => g1 x (by omega))
    refine ok_mimage (by omega) (R.ml I.ml) (I.rw.same w0 (fun j hj => g1 _ (by omega))) I.n MI i6 (fun c => by omega) (fun k' hk' ex' h0' => by omega) (fun k' hk' ex' h0' m2 I2 f2 => ?_)
    have j := nJ ex ex' (by omega) (by omega)
    subst j
    have ff : ∀ x, (x < 11856 + 64 * k ∨ 11856 + 64 * k + 64 ≤ x) → (x < 3870 ∨ 3872 ≤ x) → (x < 2086 ∨ 2172 ≤ x) → m2 x = mem x := fun x h1 h2 h3 => by rw [f2 x (by omega) (by omega), g1 x h1]
    have hst : lk (700 + k) = none ∨ (lk (700 + k) = some (zIH k) ∧ zHo lk (zIH k)) := by
      have Ik := I.2.1.2.2.2.2.1 k hk
      cases hi : im k with
      | none => exact Or.inl (Ik.1 hi).1
      | some gk => exact Or.inr ⟨(Ik.2 gk hi).1, (Ik.2 gk hi).2.1⟩
    refine q' m2 ?_
    show zInv X xs nx u g gs (va_up im k (some g)) b t m2 _ _
    obtain ⟨s, c, m, r, Ca, st, sx⟩ := I
    refine ⟨s, ⟨R.ks c.1, fun i hi => R.ho (by omega) (c.2.1 i hi), c.2.2.1.same w0 (fun j hj => ff _ (by omega) (by omega) (by omega)), (R.acts c.2.2.2.1).sm (ff _ (by omega) (by omega) (by omega)) (ff _ (by omega) (by omega) (by omega)) (fun x a b => ff x (by omega) (by omega) (by omega)), fun j hj => ?_, R.line (by omega) (by omega) c.2.2.2.2.2.1, ?_, fun i hi => ?_⟩, ⟨R.ml m.1, m.2.1.same w0 (fun j hj => ff _ (by omega) (by omega) (by omega)), m.2.2.1.sm (ff _ (by omega) (by omega) (by omega)) (fun x a b => ff x (by omega) (by omega) (by omega)), I2, ?_, fun i hi => ?_⟩, ?_, Ca.sm (ff _ (by omega) (by omega) (by omega)) (ff _ (by omega) (by omega) (by omega)) (fun x a b => ff x (by omega) (by omega) (by omega)) (fun x a b => ff x (by omega) (by omega) (by omega)), st.sm (fun x a b => ff x (by omega) (by omega) (by omega)), fun i hi => ?_⟩
    · by_cases w : j = k
      · subst w
        refine ⟨fun y => ?_, fun gk hg => ?_⟩
        · have y : va_up im j (some g) j = none := y
          rw [zup_eq] at y; cases y
        · have hg : va_up im j (some g) j = some gk := hg
          rw [zup_eq] at hg
          cases hg
          exact ⟨nwK_at (hst.imp id And.left), nwK_ho (i := 29 + j) hst (by omega), hb1.same w0 (fun i hi => f2 _ (by unfold zIH; omega) (by unfold zIH; omega)), wf.1, h0, wf.2⟩
      · obtain ⟨i1, i2⟩ := c.2.2.2.2.1 j hj
        refine ⟨fun y => ?_, fun gk hg => ?_⟩
        · have y : va_up im k (some g) j = none := y
          rw [zup_ne w] at y
          refine ⟨by rw [R.2.2.1 _ (by omega) (by omega)]; exact (i1 y).1, fun i hi yy => ?_⟩
          rcases R.2.2.2 _ yy with v | v
          · exact (i1 y).2 i hi v
          · unfold zIH at v; omega
        · have hg : va_up im k (some g) j = some gk := hg
          rw [zup_ne w] at hg
          obtain ⟨b1, b2, b3, b4⟩ := i2 gk hg
          exact ⟨by rw [R.2.2.1 _ (by omega) (by omega)]; exact b1, R.ho (i := 29 + j) (by omega) b2, b3.same b4.1.1 (fun i hi => ff _ (by unfold zIH; omega) (by unfold zIH; omega) (by unfold zIH; omega)), b4⟩
    · rw [ff _ (by omega) (by omega) (by omega)]; exact c.2.2.2.2.2.2.1
    · rw [ff _ (by omega) (by omega) (by omega)]; exact c.2.2.2.2.2.2.2 i hi
    · rw [ff _ (by omega) (by omega) (by omega)]; exact m.2.2.2.2.1
    · rw [ff _ (by omega) (by omega) (by omega)]; exact m.2.2.2.2.2 i hi
    · obtain ⟨⟨rl, rn, ri, h1, h2, h3⟩, h4, h5, l, h6, h7⟩ := r
      refine ⟨⟨rl, rn, ri, h1.fr (fun x a b => ff x (by omega) (by omega) (by omega)), h2.fr (fun x a b => ff x (by omega) (by omega) (by omega)), h3⟩, ?_, ?_, l, h6.sm (ff _ (by omega) (by omega) (by omega)) (fun x a b => ff x (by omega) (by omega) (by omega)), h7.sm (ff _ (by omega) (by omega) (by omega)) (fun x a b => ff x (by omega) (by omega) (by omega))⟩
      · rw [ff 109 (by omega) (by omega) (by omega), ff 1005 (by omega) (by omega) (by omega)]; exact h4
      · rw [ff 533 (by omega) (by omega) (by omega), ff 1004 (by omega) (by omega) (by omega)]; exact h5
    · rw [ff _ (by omega) (by omega) (by omega)]; exact sx i hi
  · refine ⟨(nx, u, g, gs, im, b, t), lk, L, Nat.le_refl _, Nat.le_refl _, fun mem d Q I hd K => ?_⟩
    have I : zInv X xs nx u g gs im b t mem lk L := I
    have i6 := I.2.1.im6
    refine ok_image (by omega) I.ks (I.h 0 (by omega)) I.hb I.n I.2.1.2.2.2.2.1 (Nat.le_refl _) (fun c => ⟨rfl, rfl, K _ mem (fun d' Q' hd' q' => ok_mimage (by omega) I.ml I.rw I.n I.2.2.1.2.2.2.1 i6 (fun _ => q' mem I) (fun k hk ex h0 => ?_) (fun k hk ex h0 => absurd ⟨k, hk, ex, h0⟩ z))⟩) (fun k hk ex h0 => ⟨rfl, rfl, K _ mem (fun d' Q' hd' q' => ok_mimage (by omega) I.ml I.rw I.n I.2.2.1.2.2.2.1 i6 (fun c => ?_) (fun _ _ _ _ => q' mem I) (fun k hk ex h0 => absurd ⟨k, hk, ex, h0⟩ z))⟩) (fun k hk ex h0 => absurd ⟨k, hk, ex, h0⟩ z)
    all_goals have := nTx ex (by omega)
    all_goals omega
/-- a call with a long answer -/
def zStpL (X y y' : Nat) (as as' : List Value) (lk : zLk) (L : List Nat) (lk' : zLk) (L' : List Nat) (I I' : zMem → Prop) : Prop := ∀ mem (d : Nat) (Q : Option Value → zMem → Prop), I mem → 40 < d → (∀ (w : Int64) mem1, zAg X y' as' (.long w) lk' L' I' mem1 → Q (some (.long w)) mem1) → zOk X d y as mem lk L lk' L' Q
def zExL (X : Nat) (xs : Nat → Int32) (y y' : Nat) (as as' : List Value) (s : zSg) (lk : zLk) (L : List Nat) : Prop := ∃ s' lk' L', L.length ≤ L'.length ∧ zpot lk' L' ≤ zpot lk L ∧ zStpL X y y' as as' lk L lk' L' (zJ X xs s lk L) (zJ X xs s' lk' L')
theorem ex_stuck {x y v w : Int32} {s : zSg} (hX : X ≤ 3072) : zExL X xs 118 199 [.ref 100, .int x, .int y, .int v, .int w] [.ref 1000, .int x, .int y, .int v, .int w] s lk L := by
  obtain ⟨nx, u, g, gs, im, b, t⟩ := s
  by_cases z : ∃ e n p q, e < g 0 ∧ g 0 ≤ 6 ∧ x = nI e ∧ n ≤ 8 ∧ y = nI n ∧ p ≤ 10 ∧ v = nI p ∧ q ≤ 1 ∧ w = nI q
  · obtain ⟨e, n, p, q, he, h6, ex, hn, ey, hp, ev, hq, ew⟩ := z
    have h9 := (zrln_le e p n hn n 0 g 1 (by omega) (by omega) (by omega)).2
    generalize hm : zrln e p n 0 g 1 = m at h9
    have R := zlkR.e (lk := lk) (L := L) h9
    have hx := nTx ex (by omega)
    have hy := nTx ey (by omega)
    have hv := nTx ev (by omega)
    have hw := nTx ew (by omega)
    refine ⟨(nx, u, g, gs, im, b, t), eK lk L m, eL lk L m, eL_le' (n := 0) (by omega), zpot_e m h9, fun mem d Q I hd K => ?_⟩
    have I : zInv X xs nx u g gs im b t mem lk L := I
    refine ok_stuck (by omega) I.ks I.2.1.2.2.2.2.2.1 (I.h 0 (by omega)) I.hb I.n I.st (eL_le' (n := 0) (by omega)) (fun c => by omega) (fun e' n' p' q' a1 a2 a3 a4 a5 a6 a7 a8 => ?_)
    have j1 := nJ ex a2 (by omega) (by omega)
    have j2 := nJ ey a4 (by omega) (by omega)
    have j3 := nJ ev a6 (by omega) (by omega)
    have j4 := nJ ew a8 (by omega) (by omega)
    subst j1 j2 j3 j4
    rw [hm]
    refine ⟨⟨rfl, rfl⟩, fun m1 f1 => K _ m1 (fun d' Q' hd' qq => ?_)⟩
    have w0 := I.n.le.1
    refine ok_mstuck (by omega) (R.ml I.ml).1 (I.rw.same w0 (fun j hj => f1 _ (by unfold zLH; omega))) I.n (fun c => by omega) (fun e' n' p' q' a1 a2 a3 a4 a5 a6 a7 a8 m2 f2 => ?_)
    have j1 := nJ ex a2 (by omega) (by omega)
    have j2 := nJ ey a4 (by omega) (by omega)
    have j3 := nJ ev a6 (by omega) (by omega)
    have j4 := nJ ew a8 (by omega) (by omega)
    subst j1 j2 j3 j4
    refine qq m2 ?_
    have I2 : zInv X xs nx u g gs im b t m2 lk L := I.sc2 hX (fun x hx => by rw [f2 x (by unfold zscr at hx; omega), f1 x (by unfold zscr at hx; unfold zLH; omega)])
    obtain ⟨s, c, m, r, Ca, st, sx⟩ := I2
    exact ⟨s, ⟨R.ks c.1, fun i hi => R.ho (by omega) (c.2.1 i hi), c.2.2.1, R.acts c.2.2.2.1, R.img (by omega) (by omega) c.2.2.2.2.1, c.2.2.2.2.2.1.e h9, c.2.2.2.2.2.2⟩, ⟨R.ml m.1, m.2⟩, r, Ca, st, sx⟩
  · refine ⟨(nx, u, g, gs, im, b, t), lk, L, Nat.le_refl _, Nat.le_refl _, fun mem d Q I hd K => ?_⟩
    have I : zInv X xs nx u g gs im b t mem lk L := I
    have w0 := I.n.le.1
    refine ok_stuck (by omega) I.ks I.2.1.2.2.2.2.2.1 (I.h 0 (by omega)) I.hb I.n I.st (Nat.le_refl _) (fun c => ⟨rfl, rfl, K _ mem (fun d' Q' hd' qq => ok_mstuck (by omega) I.ml.1 I.rw I.n (fun _ => qq mem I) (fun e n p q a1 a2 a3 a4 a5 a6 a7 a8 => absurd ⟨e, n, p, q, a1, w0, a2, a3, a4, a5, a6, a7, a8⟩ z))⟩) (fun e n p q a1 a2 a3 a4 a5 a6 a7 a8 => absurd ⟨e, n, p, q, a1, w0, a2, a3, a4, a5, a6, a7, a8⟩ z)
end S5
