/-! the steps that change the house: undo, restore; feed, house, who -/
def zlkP (lk lk' : zLk) (L L' : List Nat) : Prop := (∀ x, ¬ (670 ≤ x ∧ x < 694) → ¬ (10320 ≤ x ∧ x < 11856) → lk' x = lk x) ∧ ∀ x, x ∈ L' → x ∈ L ∨ (10320 ≤ x ∧ x < 11856)
theorem zlkP.rf {lk : zLk} {L : List Nat} : zlkP lk lk L L := ⟨fun _ _ _ => rfl, fun _ h => Or.inl h⟩
section S3
variable {X : Nat} {xs : Nat → Int32} {nx u : Nat} {g : zH} {gs : Nat → zH} {im : Nat → Option zH} {b : Nat → Nat} {t : Nat} {mem mem' : zMem} {lk lk' : zLk} {L L' : List Nat}
theorem zlkP.ml (h : zlkP lk lk' L L') (m : zML lk) : zML lk' := by
  obtain ⟨a1, a2, a3, a4, a5, a6, a7, a8, a9, a10, a11⟩ := m
  refine ⟨?_, ?_, ?_, ?_, ?_, ?_, ?_, ?_, ?_, ?_, ?_⟩ <;> (rw [h.1 _ (by omega) (by omega)]; assumption)
theorem zlkP.ho (h : zlkP lk lk' L L') {i : Nat} (hi : i < 5 ∨ 29 ≤ i) (ho : zHo lk (10000 + 64 * i)) : zHo lk' (10000 + 64 * i) := ho.lb (b := 0) (fun x h1 h2 => h.1 x (by omega) (by omega))
theorem zlkP.line (h : zlkP lk lk' L L') (l : zLine lk L) : zLine lk' L' := fun j hj => by
  rcases l j hj with ⟨a, c⟩ | ⟨a, c⟩
  · refine Or.inl ⟨by rw [h.1 _ (by omega) (by omega)]; exact a, fun i hi z => ?_⟩
    rcases h.2 _ z with y | y
    · exact c i hi y
    · unfold zLH at y; omega
  · exact Or.inr ⟨by rw [h.1 _ (by omega) (by omega)]; exact a, h.ho (i := 31 + j) (by omega) c⟩
theorem zlkP.img (h : zlkP lk lk' L L') (I : zImg mem lk L im) : zImg mem lk' L' im := fun k hk => by
  refine ⟨fun z => ⟨by rw [h.1 _ (by omega) (by omega)]; exact ((I k hk).1 z).1, fun j hj y => ?_⟩, fun gk hg => ?_⟩
  · rcases h.2 _ y with w | w
    · exact ((I k hk).1 z).2 j hj w
    · unfold zIH at w; omega
  · obtain ⟨b1, b2, b3⟩ := (I k hk).2 gk hg
    exact ⟨by rw [h.1 _ (by omega) (by omega)]; exact b1, h.ho (i := 29 + k) (by omega) b2, b3⟩
/-- after an act of both -/
theorem zInv.act (I : zInv X xs nx u g gs im b t mem lk L) (hX : X ≤ 3072) (hl : zlkP lk lk' L L') {m1 m2 : zMem} {nx' u' : Nat} {g' : zH} {gs' : Nat → zH} (C : zCN m1 lk' L' nx' u' g' gs') (f1 : zafr mem m1) (M : zMN m2 lk' u' g' gs') (f2 : zbfr m1 m2) (hN : zNow g') (hs : ∀ k, k < u' → zWF (gs' k) ∧ 1 ≤ gs' k 0 ∧ gs' k 6 ≤ 999) : zInv X xs nx' u' g' gs' im b t m2 lk' L' := by
  obtain ⟨s, c, m, r, Ca, st, sx⟩ := I
  have ff : ∀ x, ¬ (661 ≤ x ∧ x ≤ 662) → ¬ (10320 ≤ x ∧ x < 11856) → ¬ (10000 ≤ x ∧ x < 10037) → x ≠ 1001 → ¬ (2000 ≤ x ∧ x < 2043) → ¬ (2215 ≤ x ∧ x < 3247) → m2 x = mem x := fun x a b c d e f => by rw [f2 x d e f, f1 x a b c]
  obtain ⟨k1, k2, k3, k4⟩ := C
  have t110 := s.2.2.1
  refine ⟨⟨hN, hs, s.2.2⟩, ⟨k1, fun i hi => hl.ho (Or.inl hi) (c.2.1 i hi), k3.same hN.le.1 (fun j hj => f2 _ (by omega) (by omega) (by omega)), k4.sm (f2 _ (by omega) (by omega) (by omega)) (f2 _ (by omega) (by omega) (by omega)) (fun x a b => f2 _ (by omega) (by omega) (by omega)), (hl.img c.2.2.2.2.1).sm (fun x a b => ff x (by omega) (by omega) (by omega) (by omega) (by omega) (by omega)), hl.line c.2.2.2.2.2.1, ?_, fun i hi => ?_⟩, ⟨M.1, M.2.1, M.2.2, m.2.2.2.1.sm c.im6 (fun x a b => ff x (by omega) (by omega) (by omega) (by omega) (by omega) (by omega)) (fun x a b => ff x (by omega) (by omega) (by omega) (by omega) (by omega) (by omega)), ?_, fun i hi => ?_⟩, ?_, Ca.sm (ff _ (by omega) (by omega) (by omega) (by omega) (by omega) (by omega)) (ff _ (by omega) (by omega) (by omega) (by omega) (by omega) (by omega)) (fun x a b => ff x (by omega) (by omega) (by omega) (by omega) (by omega) (by omega)) (fun x a b => ff x (by omega) (by omega) (by omega) (by omega) (by omega) (by omega)), st.sm (fun x a b => ff x (by omega) (by omega) (by omega) (by omega) (by omega) (by omega)), fun i hi => ?_⟩
  · rw [ff _ (by omega) (by omega) (by omega) (by omega) (by omega) (by omega)]; exact c.2.2.2.2.2.2.1
  · rw [ff _ (by omega) (by omega) (by omega) (by omega) (by omega) (by omega)]; exact c.2.2.2.2.2.2.2 i hi
  · rw [ff _ (by omega) (by omega) (by omega) (by omega) (by omega) (by omega)]; exact m.2.2.2.2.1
  · rw [ff _ (by omega) (by omega) (by omega) (by omega) (by omega) (by omega)]; exact m.2.2.2.2.2 i hi
  · obtain ⟨⟨rl, rn, ri, h1, h2, h3⟩, h4, h5, l, h6, h7⟩ := r
    refine ⟨⟨rl, rn, ri, h1.fr (fun x a b => ff x (by omega) (by omega) (by omega) (by omega) (by omega) (by omega)), h2.fr (fun x a b => ff x (by omega) (by omega) (by omega) (by omega) (by omega) (by omega)), h3⟩, ?_, ?_, l, h6.sm (ff _ (by omega) (by omega) (by omega) (by omega) (by omega) (by omega)) (fun x a b => ff x (by omega) (by omega) (by omega) (by omega) (by omega) (by omega)), h7.sm (ff _ (by omega) (by omega) (by omega) (by omega) (by omega) (by omega)) (fun x a b => ff x (by omega) (by omega) (by omega) (by omega) (by omega) (by omega))⟩
    · rw [ff 109 (by omega) (by omega) (by omega) (by omega) (by omega) (by omega), ff 1005 (by omega) (by omega) (by omega) (by omega) (by omega) (by omega)]; exact h4
    · rw [ff 533 (by omega) (by omega) (by omega) (by omega) (by omega) (by omega), ff 1004 (by omega) (by omega) (by omega) (by omega) (by omega) (by omega)]; exact h5
  · rw [ff _ (by omega) (by omega) (by omega) (by omega) (by omega) (by omega)]; exact sx i hi
theorem zInv.cn (I : zInv X xs nx u g gs im b t mem lk L) : zCN mem lk L nx u g gs := ⟨I.ks, I.h 0 (by omega), I.hb, I.2.1.2.2.2.1⟩
/-- the reference's part, after the class has acted -/
theorem zInv.mn (I : zInv X xs nx u g gs im b t mem lk L) (hl : zlkP lk lk' L L') {m1 : zMem} (f1 : zafr mem m1) : zMN m1 lk' u g gs :=
  ⟨hl.ml I.ml, I.rw.same I.n.le.1 (fun j hj => f1 _ (by omega) (by omega) (by omega)), I.2.2.1.2.2.1.sm (f1 _ (by omega) (by omega) (by omega)) (fun x a b => f1 _ (by omega) (by omega) (by omega))⟩
theorem st_undo (hX : X ≤ 3072) : ∃ nx' u' g' gs', zStp X 98 171 [.ref 100] [.ref 1000] lk L lk L (fun m => zInv X xs nx u g gs im b t m lk L) (fun m => zInv X xs nx' u' g' gs' im b t m lk L) := by
  by_cases z : u = 0
  · refine ⟨nx, u, g, gs, fun mem d Q I hd K => ?_⟩
    refine ok_undo (by omega) I.cn (fun _ => K _ mem (fun d' Q' hd' q' => ok_mundo (by omega) I.ml.1 I.2.2.1.2.2.1 (fun _ => q' mem I) (fun c => absurd z c))) (fun c => absurd z c)
  · refine ⟨(nx + 23) % 24, u - 1, gs 0, fun k => gs (k + 1), fun mem d Q I hd K => ?_⟩
    refine ok_undo (by omega) I.cn (fun c => absurd c z) (fun _ m1 C1 f1 => K _ m1 (fun d' Q' hd' q' => ?_))
    have M1 := I.mn zlkP.rf f1
    have hs := I.1.2.1
    refine ok_mundo (by omega) M1.1.1 M1.2.2 (fun c => absurd c z) (fun _ m2 A2 R2 f2 => q' m2 (I.act hX zlkP.rf C1 f1 ⟨M1.1, R2, A2⟩ (fun x a c e => f2 x a c) (Or.inl (hs 0 (by omega))) (fun k hk => hs (k + 1) (by omega))))
theorem st_restore {x : Int32} (hX : X ≤ 3072) : ∃ nx' u' g' gs', zStp X 121 202 [.ref 100, .int x] [.ref 1000, .int x] lk L lk L (fun m => zInv X xs nx u g gs im b t m lk L) (fun m => zInv X xs nx' u' g' gs' im b t m lk L) := by
  by_cases z : ∃ k gk, k < 2 ∧ x = nI k ∧ im k = some gk
  · obtain ⟨k, gk, hk, ex, hg⟩ := z
    refine ⟨nx, 0, gk, gs, fun mem d Q I hd K => ?_⟩
    have hI : ∀ k gk, k < 2 → im k = some gk → zWF gk := fun k gk hk hg => ((I.2.1.2.2.2.2.1 k hk).2 gk hg).2.2.2.1
    have hx := nTx ex (by omega)
    refine ok_restore (by omega) I.cn I.2.1.2.2.2.2.1 (fun c => by omega) (fun k' hk' ex' hn => ?_) (fun k' gk' hk' ex' hg' m1 C1 f1 => K _ m1 (fun d' Q' hd' q' => ?_))
    · have := nJ ex ex' (by omega) (by omega)
      subst this
      rw [hg] at hn; cases hn
    · have := nJ ex ex' (by omega) (by omega)
      subst this
      rw [hg] at hg'
      cases hg'
      have f1' : zafr mem m1 := fun x a _ c => f1 x (by omega) c
      have M1 := I.mn zlkP.rf f1'
      have MI : zMImg m1 im := I.2.2.1.2.2.2.1.sm I.2.1.im6 (fun x a b => f1 x (by omega) (by omega)) (fun x a b => f1 x (by omega) (by omega))
      refine ok_mrestore (by omega) M1 MI hI (fun c => by omega) (fun k'' hk'' ex'' hn => ?_) (fun k'' gk'' hk'' ex'' hg'' m2 M2 f2 => ?_)
      · have := nJ ex ex'' (by omega) (by omega)
        subst this
        rw [hg] at hn; cases hn
      · have := nJ ex ex'' (by omega) (by omega)
        subst this
        rw [hg] at hg''
        cases hg''
        obtain ⟨i1, i2, i3, i4, i5, i6⟩ := (I.2.1.2.2.2.2.1 k hk).2 gk hg
        exact q' m2 (I.act hX zlkP.rf C1 f1' M2 (fun x a c e => f2 x a c) (Or.inl ⟨i4, i5, i6⟩) (fun k hk => by omega))
  · refine ⟨nx, u, g, gs, fun mem d Q I hd K => ?_⟩
    have hI : ∀ k gk, k < 2 → im k = some gk → zWF gk := fun k gk hk hg => ((I.2.1.2.2.2.2.1 k hk).2 gk hg).2.2.2.1
    have M1 := I.mn zlkP.rf (zafr.rf (mem := mem))
    refine ok_restore (by omega) I.cn I.2.1.2.2.2.2.1 (fun c => K _ mem (fun d' Q' hd' q' => ok_mrestore (by omega) M1 I.2.2.1.2.2.2.1 hI (fun _ => q' mem I) (fun k hk ex hn => ?_) (fun k gk hk ex hg => absurd ⟨k, gk, hk, ex, hg⟩ z))) (fun k hk ex hn => K _ mem (fun d' Q' hd' q' => ok_mrestore (by omega) M1 I.2.2.1.2.2.2.1 hI (fun c => ?_) (fun k' hk' ex' hn' => q' mem I) (fun k gk hk ex hg => absurd ⟨k, gk, hk, ex, hg⟩ z))) (fun k gk hk ex hg => absurd ⟨k, gk, hk, ex, hg⟩ z)
    all_goals have := nTx ex (by omega)
    all_goals omega
theorem st_feed {x : Int32} (hX : X ≤ 3072) : ∃ b' t', zStp X 95 146 [.ref 100, .int x] [.ref 1000, .int x] lk L lk L (fun m => zInv X xs nx u g gs im b t m lk L) (fun m => zInv X xs nx u g gs im b' t' m lk L) := by
  by_cases z : ∃ v, v ≤ 255 ∧ x = nI v ∧ t < 110
  · obtain ⟨v, hv, ex, ht⟩ := z
    refine ⟨va_up b t v, t + 1, fun mem d Q I hd K => ?_⟩
    have hx := nTx ex (by omega)
    refine ok_feed (by omega) I.ks I.2.1.2.2.2.2.2.2.1 I.1.2.2.1 (fun c => by omega) (fun v' hv' ex' ht' => by omega) (fun v' hv' ex' ht' => K _ _ (fun d' Q' hd' q' => ok_mfeed (by omega) I.ml (by rw [upd_ne (by omega), upd_ne (by omega)]; exact I.2.2.1.2.2.2.2.1) I.1.2.2.1 (fun c => by omega) (fun v'' hv'' ex'' ht'' => by omega) (fun v'' hv'' ex'' ht'' => ?_)))
    have j1 := nJ ex ex' (by omega) (by omega)
    have j2 := nJ ex ex'' (by omega) (by omega)
    subst j1 j2
    refine q' _ ?_
    obtain ⟨s, c, m, r, Ca, st, sx⟩ := I
    have ff : ∀ y, y ≠ 531 → y ≠ 540 + t → y ≠ 1003 → y ≠ 3300 + t → upd (upd (upd (upd mem (540 + t) (nI v)) 531 (nI (t + 1))) (3300 + t) (nI v)) 1003 (nI (t + 1)) y = mem y := fun y a b c d => by rw [upd_ne c, upd_ne d, upd_ne a, upd_ne b]
    have s0 := s.1.le.1
    refine ⟨⟨s.1, s.2.1, by show t + 1 ≤ 110; omega, fun i hi => ?_⟩, ⟨c.1, c.2.1, c.2.2.1.same s0 (fun j hj => ff _ (by omega) (by omega) (by omega) (by omega)), c.2.2.2.1.sm (ff _ (by omega) (by omega) (by omega) (by omega)) (ff _ (by omega) (by omega) (by omega) (by omega)) (fun x a b => ff x (by omega) (by omega) (by omega) (by omega)), c.2.2.2.2.1.sm (fun x a b => ff x (by omega) (by omega) (by omega) (by omega)), c.2.2.2.2.2.1, by rw [upd_ne (by omega), upd_ne (by omega), upd_eq], fun i hi => ?_⟩, ⟨m.1, m.2.1.same s0 (fun j hj => ff _ (by omega) (by omega) (by omega) (by omega)), m.2.2.1.sm (ff _ (by omega) (by omega) (by omega) (by omega)) (fun x a b => ff x (by omega) (by omega) (by omega) (by omega)), m.2.2.2.1.sm c.im6 (fun x a b => ff x (by omega) (by omega) (by omega) (by omega)) (fun x a b => ff x (by omega) (by omega) (by omega) (by omega)), by rw [upd_eq], fun i hi => ?_⟩, ?_, Ca.sm (ff _ (by omega) (by omega) (by omega) (by omega)) (ff _ (by omega) (by omega) (by omega) (by omega)) (fun x a b => ff x (by omega) (by omega) (by omega) (by omega)) (fun x a b => ff x (by omega) (by omega) (by omega) (by omega)), st.sm (fun x a b => ff x (by omega) (by omega) (by omega) (by omega)), fun i hi => ?_⟩
    · by_cases w : i = t
      · subst w; rw [zup_eq]; exact hv
      · rw [zup_ne w]; exact s.2.2.2 i (by omega)
    · by_cases w : i = t
      · subst w; rw [zup_eq, upd_ne (by omega), upd_ne (by omega), upd_ne (by omega), upd_eq]
      · rw [zup_ne w, ff _ (by omega) (by omega) (by omega) (by omega)]; exact c.2.2.2.2.2.2.2 i (by omega)
    · by_cases w : i = t
      · subst w; rw [zup_eq, upd_ne (by omega), upd_eq]
      · rw [zup_ne w, ff _ (by omega) (by omega) (by omega) (by omega)]; exact m.2.2.2.2.2 i (by omega)
    · obtain ⟨⟨rl, rn, ri, h1, h2, h3⟩, h4, h5, l, h6, h7⟩ := r
      refine ⟨⟨rl, rn, ri, h1.fr (fun x a b => ff x (by omega) (by omega) (by omega) (by omega)), h2.fr (fun x a b => ff x (by omega) (by omega) (by omega) (by omega)), h3⟩, ?_, ?_, l, h6.sm (ff _ (by omega) (by omega) (by omega) (by omega)) (fun x a b => ff x (by omega) (by omega) (by omega) (by omega)), h7.sm (ff _ (by omega) (by omega) (by omega) (by omega)) (fun x a b => ff x (by omega) (by omega) (by omega) (by omega))⟩
      · rw [ff 109 (by omega) (by omega) (by omega) (by omega), ff 1005 (by omega) (by omega) (by omega) (by omega)]; exact h4
      · rw [ff 533 (by omega) (by omega) (by omega) (by omega), ff 1004 (by omega) (by omega) (by omega) (by omega)]; exact h5
    · rw [ff _ (by omega) (by omega) (by omega) (by omega)]; exact sx i hi
  · refine ⟨b, t, fun mem d Q I hd K => ?_⟩
    refine ok_feed (by omega) I.ks I.2.1.2.2.2.2.2.2.1 I.1.2.2.1 (fun c => K _ mem (fun d' Q' hd' q' => ok_mfeed (by omega) I.ml I.2.2.1.2.2.2.2.1 I.1.2.2.1 (fun _ => q' mem I) (fun v hv ex ht => ?_) (fun v hv ex ht => absurd ⟨v, hv, ex, ht⟩ z))) (fun v hv ex ht => K _ mem (fun d' Q' hd' q' => ok_mfeed (by omega) I.ml I.2.2.1.2.2.2.2.1 I.1.2.2.1 (fun c => ?_) (fun _ _ _ _ => q' mem I) (fun v hv ex ht => absurd ⟨v, hv, ex, ht⟩ z))) (fun v hv ex ht => absurd ⟨v, hv, ex, ht⟩ z)
    all_goals have := nTx ex (by omega)
    all_goals omega
theorem st_who {x y z i n : Int32} (hX : X ≤ 3072) : zStp X 117 198 [.ref 100, .int x, .int y, .int z, .int i, .int n] [.ref 1000, .int x, .int y, .int z, .int i, .int n] lk L lk L (fun m => zInv X xs nx u g gs im b t m lk L) (fun m => zInv X xs nx u g gs im b t m lk L) := fun mem d Q I hd K => by
  have w0 := I.n.le.1
  obtain ⟨rl, rn, ri, c1, c2, c3⟩ := I.rs.1
  have hru : ∀ v, zRw (upd mem 109 v) 0 g := fun v => I.rw.same w0 (fun j hj => upd_ne (by omega))
  refine ok_who (by omega) I.ks (I.h 2 (by omega)) (I.h 0 (by omega)) I.hb I.n I.st c1 c3 (fun c => K _ mem (fun d' Q' hd' q' => ok_mwho (by omega) I.ml I.rw I.n c2 c3 (fun _ => q' mem I) (fun e w r k a1 a2 a3 a4 a5 a6 a7 a8 => ?_) (fun e w r k a1 a2 a3 a4 a5 a6 a7 a8 => ?_) (fun e w r k a a1 a2 a3 a4 a5 a6 a7 a8 => ?_)))
    (fun e w r k a1 a2 a3 a4 a5 a6 a7 a8 a9 => K _ _ (fun d' Q' hd' q' => ok_mwho (by omega) I.ml (hru _) I.n (c2.st (Or.inl (by omega))) c3 (fun c => ?_) (fun _ _ _ _ _ _ _ _ _ _ _ _ _ => q' _ (I.f2 hX)) (fun e' w' r' k' b1 b2 b3 b4 b5 b6 b7 b8 b9 b10 => ?_) (fun e' w' r' k' a' b1 b2 b3 b4 b5 b6 b7 b8 b9 b10 b11 => ?_)))
    (fun e w r k a1 a2 a3 a4 a5 a6 a7 a8 a9 a10 => K _ _ (fun d' Q' hd' q' => ok_mwho (by omega) I.ml (hru _) I.n (c2.st (Or.inl (by omega))) c3 (fun c => ?_) (fun e' w' r' k' b1 b2 b3 b4 b5 b6 b7 b8 b9 => ?_) (fun _ _ _ _ _ _ _ _ _ _ _ _ _ _ => q' _ (I.f2 hX)) (fun e' w' r' k' a' b1 b2 b3 b4 b5 b6 b7 b8 b9 b10 b11 => ?_)))
    (fun e w r k a a1 a2 a3 a4 a5 a6 a7 a8 a9 a10 a11 m1 f1 => K _ _ (fun d' Q' hd' q' => ok_mwho (by omega) I.ml (I.rw.same w0 (fun j hj => by rw [upd_ne (by omega), f1 _ (by omega)])) I.n (c2.fr (fun x h1 h2 => by rw [upd_ne (by omega), f1 _ (by omega)])) c3 (fun c => ?_) (fun e' w' r' k' b1 b2 b3 b4 b5 b6 b7 b8 b9 => ?_) (fun e' w' r' k' b1 b2 b3 b4 b5 b6 b7 b8 b9 b10 => ?_) (fun e' w' r' k' a' b1 b2 b3 b4 b5 b6 b7 b8 b9 b10 b11 m2 f2 => ?_)))
  all_goals have h1 := nTx a2 (by omega)
  all_goals have h2 := nTx a4 (by omega)
  all_goals have h3 := nTx a6 (by omega)
  all_goals have h4 := nTx a8 (by omega)
  all_goals first
    | (unfold zNoRow at c; omega)
    | skip
  all_goals have j3 := nJ a6 b6 (by omega) (by omega)
  all_goals subst j3
  · exact absurd a9 b9
  · exact absurd a9 b9
  · exact absurd b9 a9
  · have u1 := (c3 r a5 a9).2
    have v1 := nTx b10 (by omega)
    have v2 := nTx b8 (by omega)
    unfold zNoCov at a10
    omega
  · exact absurd b9 a9
  · have u1 := (c3 r a5 a9).2
    have v1 := nTx a10 (by omega)
    unfold zNoCov at b10
    omega
  · have u1 := (c3 r a5 a9).2
    have j1 := nJ a2 b2 (by omega) (by omega)
    have j2 := nJ a4 b4 (by omega) (by omega)
    have j4 := nJ a8 b8 (by omega) (by omega)
    have j5 := nJ a10 b10 (by omega) (by omega)
    subst j1 j2 j4 j5
    refine q' m2 (I.fd hX (fun x a c s => ?_) ?_)
    · rw [f2 x (by unfold zscr at s; omega), upd_ne c, upd_ne a, f1 x (by unfold zscr at s; omega)]
    · rw [f2 109 (by omega), f2 1005 (by omega), upd_ne (by omega), upd_eq, upd_eq]
end S3
