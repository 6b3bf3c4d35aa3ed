/-! the steps that make houses: what they cost, and pull, rope, room, send, minutes -/
def znn (lk : zLk) (b : Nat) : Nat → Nat
  | 0 => 0
  | n + 1 => znn lk b n + (if lk (b + n) = none then 1 else 0)
theorem znn_sm {lk lk' : zLk} {b : Nat} : ∀ n, (∀ i, i < n → lk' (b + i) = lk (b + i)) → znn lk' b n = znn lk b n
  | 0, _ => rfl
  | n + 1, h => by
    show znn lk' b n + (if lk' (b + n) = none then 1 else 0) = znn lk b n + (if lk (b + n) = none then 1 else 0)
    rw [znn_sm n (fun i hi => h i (by omega)), h n (by omega)]
theorem znn_dn {lk lk' : zLk} {b k v : Nat} (h0 : lk (b + k) = none) (h1 : lk' (b + k) = some v) : ∀ n, k < n → (∀ i, i < n → i ≠ k → lk' (b + i) = lk (b + i)) → znn lk' b n + 1 = znn lk b n
  | 0, h, _ => by omega
  | n + 1, h, hf => by
    show znn lk' b n + (if lk' (b + n) = none then 1 else 0) + 1 = znn lk b n + (if lk (b + n) = none then 1 else 0)
    by_cases z : k = n
    · subst z
      have z1 : (if lk' (b + k) = none then 1 else 0) = 0 := by rw [h1]; rfl
      have z2 : (if lk (b + k) = none then 1 else 0) = 1 := by rw [h0]; rfl
      rw [z1, z2, znn_sm k (fun i hi => hf i (by omega) (by omega))]
    · have ih := znn_dn h0 h1 n (by omega) (fun i hi hk => hf i (by omega) hk)
      rw [hf n (by omega) (by omega)]
      omega
/-- how many there can ever be -/
def zpot (lk : zLk) (L : List Nat) : Nat := L.length + 6 * (znn lk 670 24 + znn lk 700 2 + znn lk 720 9)
theorem zpot_nw {a i : Nat} {lk : zLk} {L : List Nat} (ha : (670 ≤ a ∧ a < 694) ∨ (700 ≤ a ∧ a < 702) ∨ (720 ≤ a ∧ a < 729)) : zpot (nwK a (10000 + 64 * i) lk) (nwL a (10000 + 64 * i) lk L) ≤ zpot lk L := by
  cases e : lk a with
  | some v =>
    have e1 : nwK a (10000 + 64 * i) lk = lk := by unfold nwK; rw [e]
    have e2 : nwL a (10000 + 64 * i) lk L = L := by unfold nwL; rw [e]
    rw [e1, e2]; exact Nat.le_refl _
  | none =>
    have e1 : nwK a (10000 + 64 * i) lk a = some (10000 + 64 * i) := nwK_at (Or.inl e)
    have e2 : (nwL a (10000 + 64 * i) lk L).length = L.length + 6 := by unfold nwL; rw [e]; unfold zhL; simp only [List.length_append, List.length_cons, List.length_nil]
    have hf : ∀ x, x ≠ a → x < 10000 → nwK a (10000 + 64 * i) lk x = lk x := fun x h1 h2 => nwK_ne h1 (by omega)
    unfold zpot
    rw [e2]
    rcases ha with h | h | h
    · obtain ⟨k, hk⟩ : ∃ k, a = 670 + k := ⟨a - 670, by omega⟩
      subst hk
      have d1 := znn_dn e e1 24 (by omega) (fun j hj hjk => hf _ (by omega) (by omega))
      rw [znn_sm (b := 700) 2 (fun j hj => hf _ (by omega) (by omega)), znn_sm (b := 720) 9 (fun j hj => hf _ (by omega) (by omega))]
      omega
    · obtain ⟨k, hk⟩ : ∃ k, a = 700 + k := ⟨a - 700, by omega⟩
      subst hk
      have d1 := znn_dn e e1 2 (by omega) (fun j hj hjk => hf _ (by omega) (by omega))
      rw [znn_sm (b := 670) 24 (fun j hj => hf _ (by omega) (by omega)), znn_sm (b := 720) 9 (fun j hj => hf _ (by omega) (by omega))]
      omega
    · obtain ⟨k, hk⟩ : ∃ k, a = 720 + k := ⟨a - 720, by omega⟩
      subst hk
      have d1 := znn_dn e e1 9 (by omega) (fun j hj hjk => hf _ (by omega) (by omega))
      rw [znn_sm (b := 670) 24 (fun j hj => hf _ (by omega) (by omega)), znn_sm (b := 700) 2 (fun j hj => hf _ (by omega) (by omega))]
      omega
theorem zpot_kp {nx : Nat} {lk : zLk} {L : List Nat} (h : nx < 24) : zpot (kpK nx lk) (kpL nx lk L) ≤ zpot lk L := zpot_nw (a := 670 + nx) (i := 5 + nx) (Or.inl (by omega))
theorem zpot_mn : ∀ n nx lk L, nx < 24 → zpot (mnK n nx lk) (mnL n nx lk L) ≤ zpot lk L
  | 0, _, _, _, _ => Nat.le_refl _
  | n + 1, nx, lk, L, h => Nat.le_trans (zpot_mn n ((nx + 1) % 24) (kpK nx lk) (kpL nx lk L) (by omega)) (zpot_kp h)
theorem zpot_e {lk : zLk} {L : List Nat} : ∀ n, n ≤ 9 → zpot (eK lk L n) (eL lk L n) ≤ zpot lk L
  | 0, _ => Nat.le_refl _
  | n + 1, h => Nat.le_trans (zpot_nw (a := 720 + n) (i := 31 + n) (lk := eK lk L n) (L := eL lk L n) (Or.inr (Or.inr (by omega)))) (zpot_e n (by omega))
theorem zlkP.tr {lk1 lk2 lk3 : zLk} {L1 L2 L3 : List Nat} (h : zlkP lk1 lk2 L1 L2) (h' : zlkP lk2 lk3 L2 L3) : zlkP lk1 lk3 L1 L3 := ⟨fun x a c => (h'.1 x a c).trans (h.1 x a c), fun x hx => by
  rcases h'.2 x hx with z | z
  · exact h.2 x z
  · exact Or.inr z⟩
theorem zlkP.kp {nx : Nat} {lk : zLk} {L : List Nat} (h : nx < 24) : zlkP lk (kpK nx lk) L (kpL nx lk L) := ⟨fun x a c => kpK_ne (by omega) (by unfold zAH; omega), fun x hx => by
  rcases kpL_in hx with z | z
  · exact Or.inl z
  · exact Or.inr (by unfold zAH at z; omega)⟩
theorem zlkP.mn : ∀ n nx lk L, nx < 24 → zlkP lk (mnK n nx lk) L (mnL n nx lk L)
  | 0, _, _, _, _ => zlkP.rf
  | n + 1, nx, lk, L, h => (zlkP.kp h).tr (zlkP.mn n ((nx + 1) % 24) (kpK nx lk) (kpL nx lk L) (by omega))
def zKeep (u : Nat) (gs : Nat → zH) : Prop := ∀ k, k < u → zWF (gs k) ∧ 1 ≤ gs k 0 ∧ gs k 6 ≤ 999
theorem zKeep.ps {u : Nat} {g : zH} {gs : Nat → zH} (h : zKeep u gs) (hg : zWF g ∧ 1 ≤ g 0 ∧ g 6 ≤ 999) : zKeep (if u < 24 then u + 1 else 24) (zpsh g gs) := fun k hk => by
  by_cases z : k = 0
  · subst z; exact hg
  · rw [zpsh_s z]
    refine h (k - 1) ?_
    split at hk <;> omega
theorem zKeep.mn : ∀ n u g gs, zKeep u gs → zWF g → 1 ≤ g 0 → g 6 + n ≤ 999 → zKeep (mnU n u) (mnS n g gs)
  | 0, _, _, _, h, _, _, _ => h
  | n + 1, u, g, gs, h, w, h1, h6 => by
    have e6 : zpass (fun e => e) g 6 = g 6 + 1 := zpass_6 w.1
    have e0 : zpass (fun e => e) g 0 = g 0 := zpass_ne w.1 (by omega) (by omega) (by omega) (by omega)
    exact zKeep.mn n _ (zpass (fun e => e) g) (zpsh g gs) (h.ps ⟨w, h1, by omega⟩) (zpass_wf w (by omega)) (by omega) (by omega)
/-! what is between two calls, in one -/
abbrev zSg : Type := Nat × Nat × zH × (Nat → zH) × (Nat → Option zH) × (Nat → Nat) × Nat
def zJ (X : Nat) (xs : Nat → Int32) (s : zSg) (lk : zLk) (L : List Nat) (mem : zMem) : Prop := zInv X xs s.1 s.2.1 s.2.2.1 s.2.2.2.1 s.2.2.2.2.1 s.2.2.2.2.2.1 s.2.2.2.2.2.2 mem lk L
/-- a call: what it makes is known before -/
def zEx (X : Nat) (xs : Nat → Int32) (y y' : Nat) (as as' : List Value) (s : zSg) (lk : zLk) (L : List Nat) : Prop := ∃ s' lk' L', L.length ≤ L'.length ∧ zpot lk' L' ≤ zpot lk L ∧ zStp X y y' as as' lk L lk' L' (zJ X xs s lk L) (zJ X xs s' lk' L')
/-- a call that makes nothing -/
def zEy (X : Nat) (xs : Nat → Int32) (y y' : Nat) (as as' : List Value) (s : zSg) (lk : zLk) (L : List Nat) : Prop := ∃ s', zStp X y y' as as' lk L lk L (zJ X xs s lk L) (zJ X xs s' lk L)
section S4
variable {X : Nat} {xs : Nat → Int32} {s : zSg} {lk : zLk} {L : List Nat}
theorem zEx.no {y y' : Nat} {as as' : List Value} (h : ∀ mem, ¬ zJ X xs s lk L mem) : zEx X xs y y' as as' s lk L := ⟨s, lk, L, Nat.le_refl _, Nat.le_refl _, fun mem d Q I hd K => absurd I (h mem)⟩
theorem zJ.nx {mem : zMem} (I : zJ X xs s lk L mem) : s.1 < 24 := I.2.1.2.2.2.1.1
theorem ex_pull {x : Int32} (hX : X ≤ 3072) : zEx X xs 100 173 [.ref 100, .int x] [.ref 1000, .int x] s lk L := by
  obtain ⟨nx, u, g, gs, im, b, t⟩ := s
  by_cases hn : nx < 24
  · by_cases z : ∃ e, e < g 1 ∧ x = nI e ∧ g 4 ≠ e
    · obtain ⟨e, he, ex, h4⟩ := z
      refine ⟨((nx + 1) % 24, (if u < 24 then u + 1 else 24), va_up g 4 e, zpsh g gs, im, b, t), kpK nx lk, kpL nx lk L, kpL_le _ _ _, zpot_kp hn, fun mem d Q I hd K => ?_⟩
      have I : zInv X xs nx u g gs im b t mem lk L := I
      have w1 := I.n.le.2
      have hx := nTx ex (by omega)
      have wf := I.n.wf1 (by omega)
      refine ok_pull (by omega) I.cn I.n (kpL_le _ _ _) (fun c => by omega) (fun e' he' ex' h4' => ?_) (fun e' he' ex' h4' => ?_)
      · have := nJ ex ex' (by omega) (by omega)
        omega
      · have j := nJ ex ex' (by omega) (by omega)
        subst j
        refine ⟨⟨rfl, rfl⟩, fun m1 C1 f1 => K _ m1 (fun d' Q' hd' q' => ?_)⟩
        refine ok_mpull (by omega) (I.mn (zlkP.kp hn) f1) I.n (fun c => by omega) (fun e' he' ex' h4' => ?_) (fun e' he' ex' h4' m2 M2 f2 => ?_)
        · have := nJ ex ex' (by omega) (by omega)
          omega
        · have j := nJ ex ex' (by omega) (by omega)
          subst j
          have N : zNow (va_up g 4 e) := Or.inl ⟨wf.1.s4 he, (by rw [zup_ne (by omega)]; exact wf.2.2), by rw [zup_ne (by omega)]; exact wf.2.1⟩
          exact q' m2 (I.act hX (zlkP.kp hn) C1 f1 M2 f2 N (zKeep.ps I.1.2.1 ⟨wf.1, wf.2.2, wf.2.1⟩))
    · refine ⟨(nx, u, g, gs, im, b, t), lk, L, Nat.le_refl _, Nat.le_refl _, fun mem d Q I hd K => ?_⟩
      have I : zInv X xs nx u g gs im b t mem lk L := I
      have w1 := I.n.le.2
      have M := I.mn zlkP.rf (zafr.rf (mem := mem))
      refine ok_pull (by omega) I.cn I.n (Nat.le_refl _) (fun c => ⟨rfl, rfl, K _ mem (fun d' Q' hd' q' => ok_mpull (by omega) M I.n (fun _ => q' mem I) (fun e he ex h4 => ?_) (fun e he ex h4 => absurd ⟨e, he, ex, h4⟩ z))⟩) (fun e he ex h4 => ⟨rfl, rfl, K _ mem (fun d' Q' hd' q' => ok_mpull (by omega) M I.n (fun c => ?_) (fun _ _ _ _ => q' mem I) (fun e he ex h4 => absurd ⟨e, he, ex, h4⟩ z))⟩) (fun e he ex h4 => absurd ⟨e, he, ex, h4⟩ z)
      all_goals have := nTx ex (by omega)
      all_goals omega
  · exact zEx.no (fun mem I => hn I.nx)
theorem ex_rope {x : Int32} (hX : X ≤ 3072) : zEx X xs 101 174 [.ref 100, .int x] [.ref 1000, .int x] s lk L := by
  obtain ⟨nx, u, g, gs, im, b, t⟩ := s
  by_cases hn : nx < 24
  · by_cases z : 0 < g 0 ∧ ∃ e, x = nI e ∧ 1 ≤ e ∧ e ≤ 40
    · obtain ⟨h0, e, ex, he⟩ := z
      refine ⟨((nx + 1) % 24, (if u < 24 then u + 1 else 24), va_up g 3 e, zpsh g gs, im, b, t), kpK nx lk, kpL nx lk L, kpL_le _ _ _, zpot_kp hn, fun mem d Q I hd K => ?_⟩
      have I : zInv X xs nx u g gs im b t mem lk L := I
      have hx := nTx ex (by omega)
      have wf := I.n.wf h0
      refine ok_rope (by omega) I.cn I.n (kpL_le _ _ _) (fun c => by omega) (fun _ c => by omega) (fun e' h0' ex' he' => ?_)
      have j := nJ ex ex' (by omega) (by omega)
      subst j
      refine ⟨⟨rfl, rfl⟩, fun m1 C1 f1 => K _ m1 (fun d' Q' hd' q' => ?_)⟩
      refine ok_mrope (by omega) (I.mn (zlkP.kp hn) f1) I.n (fun c => by omega) (fun _ c => by omega) (fun e' h0' ex' he' m2 M2 f2 => ?_)
      have j := nJ ex ex' (by omega) (by omega)
      subst j
      have N : zNow (va_up g 3 e) := Or.inl ⟨wf.1.s3 he, (by rw [zup_ne (by omega)]; exact h0), by rw [zup_ne (by omega)]; exact wf.2⟩
      exact q' m2 (I.act hX (zlkP.kp hn) C1 f1 M2 f2 N (zKeep.ps I.1.2.1 ⟨wf.1, h0, wf.2⟩))
    · refine ⟨(nx, u, g, gs, im, b, t), lk, L, Nat.le_refl _, Nat.le_refl _, fun mem d Q I hd K => ?_⟩
      have I : zInv X xs nx u g gs im b t mem lk L := I
      have M := I.mn zlkP.rf (zafr.rf (mem := mem))
      refine ok_rope (by omega) I.cn I.n (Nat.le_refl _) (fun h0 => ⟨rfl, rfl, K _ mem (fun d' Q' hd' q' => ok_mrope (by omega) M I.n (fun _ => q' mem I) (fun h0' _ => by omega) (fun e h0' ex he => by omega))⟩) (fun h0 c => ⟨rfl, rfl, K _ mem (fun d' Q' hd' q' => ok_mrope (by omega) M I.n (fun c => by omega) (fun _ _ => q' mem I) (fun e h0' ex he => absurd ⟨h0', e, ex, he⟩ z))⟩) (fun e h0' ex he => absurd ⟨h0', e, ex, he⟩ z)
  · exact zEx.no (fun mem I => hn I.nx)
theorem ex_room {x : Int32} (hX : X ≤ 3072) : zEx X xs 102 175 [.ref 100, .int x] [.ref 1000, .int x] s lk L := by
  obtain ⟨nx, u, g, gs, im, b, t⟩ := s
  by_cases hn : nx < 24
  · by_cases z : 0 < g 0 ∧ ∃ e, x = nI e ∧ 1 ≤ e ∧ e ≤ 4
    · obtain ⟨h0, e, ex, he⟩ := z
      refine ⟨((nx + 1) % 24, (if u < 24 then u + 1 else 24), va_up g 2 e, zpsh g gs, im, b, t), kpK nx lk, kpL nx lk L, kpL_le _ _ _, zpot_kp hn, fun mem d Q I hd K => ?_⟩
      have I : zInv X xs nx u g gs im b t mem lk L := I
      have hx := nTx ex (by omega)
      have wf := I.n.wf h0
      refine ok_room (by omega) I.cn I.n (kpL_le _ _ _) (fun c => by omega) (fun _ c => by omega) (fun e' h0' ex' he' => ?_)
      have j := nJ ex ex' (by omega) (by omega)
      subst j
      refine ⟨⟨rfl, rfl⟩, fun m1 C1 f1 => K _ m1 (fun d' Q' hd' q' => ?_)⟩
      refine ok_mroom (by omega) (I.mn (zlkP.kp hn) f1) I.n (fun c => by omega) (fun _ c => by omega) (fun e' h0' ex' he' m2 M2 f2 => ?_)
      have j := nJ ex ex' (by omega) (by omega)
      subst j
      have N : zNow (va_up g 2 e) := Or.inl ⟨wf.1.s2 he, (by rw [zup_ne (by omega)]; exact h0), by rw [zup_ne (by omega)]; exact wf.2⟩
      exact q' m2 (I.act hX (zlkP.kp hn) C1 f1 M2 f2 N (zKeep.ps I.1.2.1 ⟨wf.1, h0, wf.2⟩))
    · refine ⟨(nx, u, g, gs, im, b, t), lk, L, Nat.le_refl _, Nat.le_refl _, fun mem d Q I hd K => ?_⟩
      have I : zInv X xs nx u g gs im b t mem lk L := I
      have M := I.mn zlkP.rf (zafr.rf (mem := mem))
      refine ok_room (by omega) I.cn I.n (Nat.le_refl _) (fun h0 => ⟨rfl, rfl, K _ mem (fun d' Q' hd' q' => ok_mroom (by omega) M I.n (fun _ => q' mem I) (fun h0' _ => by omega) (fun e h0' ex he => by omega))⟩) (fun h0 c => ⟨rfl, rfl, K _ mem (fun d' Q' hd' q' => ok_mroom (by omega) M I.n (fun c => by omega) (fun _ _ => q' mem I) (fun e h0' ex he => absurd ⟨h0', e, ex, he⟩ z))⟩) (fun e h0' ex he => absurd ⟨h0', e, ex, he⟩ z)
  · exact zEx.no (fun mem I => hn I.nx)
theorem ex_minutes {x : Int32} (hX : X ≤ 3072) : zEx X xs 99 172 [.ref 100, .int x] [.ref 1000, .int x] s lk L := by
  obtain ⟨nx, u, g, gs, im, b, t⟩ := s
  by_cases hn : nx < 24
  · by_cases z : 0 < g 0 ∧ ∃ n, x = nI n ∧ (1 ≤ n ∧ n ≤ 24) ∧ g 6 + n ≤ 999
    · obtain ⟨h0, n, ex, he, h6⟩ := z
      refine ⟨(mnX n nx, mnU n u, mnG n g, mnS n g gs, im, b, t), mnK n nx lk, mnL n nx lk L, mnL_le _ _ _ _, zpot_mn _ _ _ _ hn, fun mem d Q I hd K => ?_⟩
      have I : zInv X xs nx u g gs im b t mem lk L := I
      have hx := nTx ex (by omega)
      have wf := I.n.wf h0
      refine ok_minutes (by omega) I.cn I.n I.st (mnL_le _ _ _ _) (fun c => by omega) (fun _ c => by omega) (fun e' h0' ex' he' h9 => ?_) (fun e' h0' ex' he' h9 => ?_)
      · have j := nJ ex ex' (by omega) (by omega)
        omega
      · have j := nJ ex ex' (by omega) (by omega)
        subst j
        refine ⟨⟨rfl, rfl⟩, fun m1 C1 f1 => K _ m1 (fun d' Q' hd' q' => ?_)⟩
        refine ok_mminutes (by omega) (I.mn (zlkP.mn n nx lk L hn) f1) I.n (fun c => by omega) (fun _ c => by omega) (fun e' h0' ex' he' h9 => ?_) (fun e' h0' ex' he' h9 m2 M2 f2 => ?_)
        · have j := nJ ex ex' (by omega) (by omega)
          omega
        · have j := nJ ex ex' (by omega) (by omega)
          subst j
          obtain ⟨g1, g2, g3⟩ := mnG_wf n g wf.1 (by omega)
          have N : zNow (mnG n g) := Or.inl ⟨g1, by omega, by omega⟩
          exact q' m2 (I.act hX (zlkP.mn n nx lk L hn) C1 f1 M2 f2 N (zKeep.mn n u g gs I.1.2.1 wf.1 h0 (by omega)))
    · refine ⟨(nx, u, g, gs, im, b, t), lk, L, Nat.le_refl _, Nat.le_refl _, fun mem d Q I hd K => ?_⟩
      have I : zInv X xs nx u g gs im b t mem lk L := I
      have M := I.mn zlkP.rf (zafr.rf (mem := mem))
      refine ok_minutes (by omega) I.cn I.n I.st (Nat.le_refl _) (fun h0 => ⟨rfl, rfl, K _ mem (fun d' Q' hd' q' => ok_mminutes (by omega) M I.n (fun _ => q' mem I) (fun h0' _ => by omega) (fun e h0' ex he h9 => by omega) (fun e h0' ex he h9 => by omega))⟩) (fun h0 c => ⟨rfl, rfl, K _ mem (fun d' Q' hd' q' => ok_mminutes (by omega) M I.n (fun c => by omega) (fun _ _ => q' mem I) (fun e h0' ex he h9 => ?_) (fun e h0' ex he h9 => absurd ⟨h0', e, ex, he, h9⟩ z))⟩) (fun e h0 ex he h9 => ⟨rfl, rfl, K _ mem (fun d' Q' hd' q' => ok_mminutes (by omega) M I.n (fun c => by omega) (fun _ c => ?_) (fun _ _ _ _ _ => q' mem I) (fun e h0' ex he h9 => absurd ⟨h0', e, ex, he, h9⟩ z))⟩) (fun e h0' ex he h9 => absurd ⟨h0', e, ex, he, h9⟩ z)
      all_goals have := nTx ex (by omega)
      all_goals omega
  · exact zEx.no (fun mem I => hn I.nx)
theorem ex_send {x y w : Int32} (hX : X ≤ 3072) : zEx X xs 103 177 [.ref 100, .int x, .int y, .int w] [.ref 1000, .int x, .int y, .int w] s lk L := by
  obtain ⟨nx, u, g, gs, im, b, t⟩ := s
  by_cases hn : nx < 24
  · by_cases z : ∃ e f h, e < g 0 ∧ f < g 1 ∧ h ≤ 60 ∧ x = nI e ∧ y = nI f ∧ w = nI h ∧ g (13 + e) = 11 ∧ g (19 + e) ≠ f
    · obtain ⟨e, f, h, he, ht, hh, ex, ey, ew, h1, h2⟩ := z
      refine ⟨((nx + 1) % 24, (if u < 24 then u + 1 else 24), zsend g e f h, zpsh g gs, im, b, t), kpK nx lk, kpL nx lk L, kpL_le _ _ _, zpot_kp hn, fun mem d Q I hd K => ?_⟩
      have I : zInv X xs nx u g gs im b t mem lk L := I
      have w0 := I.n.le
      have hx := nTx ex (by omega)
      have hy := nTx ey (by omega)
      have hw := nTx ew (by omega)
      have wf := I.n.wf (by omega)
      refine ok_send (by omega) I.cn I.n (kpL_le _ _ _) (fun c => ?_) (fun e' t' h' a1 a2 a3 a4 a5 a6 a7 => ?_) (fun e' t' h' a1 a2 a3 a4 a5 a6 a7 a8 => ?_)
      · unfold zBadSend at c; omega
      · have j1 := nJ ex a4 (by omega) (by omega)
        have j2 := nJ ey a5 (by omega) (by omega)
        subst j1 j2
        omega
      · have j1 := nJ ex a4 (by omega) (by omega)
        have j2 := nJ ey a5 (by omega) (by omega)
        have j3 := nJ ew a6 (by omega) (by omega)
        subst j1 j2 j3
        refine ⟨⟨rfl, rfl⟩, fun m1 C1 f1 => K _ m1 (fun d' Q' hd' q' => ?_)⟩
        refine ok_msend (by omega) (I.mn (zlkP.kp hn) f1) I.n (fun c => ?_) (fun e' t' h' a1 a2 a3 a4 a5 a6 a7 => ?_) (fun e' t' h' a1 a2 a3 a4 a5 a6 a7 a8 m2 M2 f2 => ?_)
        · unfold zBadSend at c; omega
        · have j1 := nJ ex a4 (by omega) (by omega)
          have j2 := nJ ey a5 (by omega) (by omega)
          subst j1 j2
          omega
        · have j1 := nJ ex a4 (by omega) (by omega)
          have j2 := nJ ey a5 (by omega) (by omega)
          have j3 := nJ ew a6 (by omega) (by omega)
          subst j1 j2 j3
          have N : zNow (zsend g e f h) := Or.inl ⟨zsend_wf wf.1 he ht hh, (by rw [zsend_ne (by omega) (by omega) (by omega)]; omega), by rw [zsend_ne (by omega) (by omega) (by omega)]; exact wf.2⟩
          exact q' m2 (I.act hX (zlkP.kp hn) C1 f1 M2 f2 N (zKeep.ps I.1.2.1 ⟨wf.1, by omega, wf.2⟩))
    · refine ⟨(nx, u, g, gs, im, b, t), lk, L, Nat.le_refl _, Nat.le_refl _, fun mem d Q I hd K => ?_⟩
      have I : zInv X xs nx u g gs im b t mem lk L := I
      have M := I.mn zlkP.rf (zafr.rf (mem := mem))
      have w0 := I.n.le
      refine ok_send (by omega) I.cn I.n (Nat.le_refl _) (fun c => ⟨rfl, rfl, K _ mem (fun d' Q' hd' q' => ok_msend (by omega) M I.n (fun _ => q' mem I) (fun e t h a1 a2 a3 a4 a5 a6 a7 => ?_) (fun e t h a1 a2 a3 a4 a5 a6 a7 a8 => absurd ⟨e, t, h, a1, a2, a3, a4, a5, a6, a7, a8⟩ z))⟩) (fun e t h a1 a2 a3 a4 a5 a6 a7 => ⟨rfl, rfl, K _ mem (fun d' Q' hd' q' => ok_msend (by omega) M I.n (fun c => ?_) (fun _ _ _ _ _ _ _ _ _ _ => q' mem I) (fun e t h a1 a2 a3 a4 a5 a6 a7 a8 => absurd ⟨e, t, h, a1, a2, a3, a4, a5, a6, a7, a8⟩ z))⟩) (fun e t h a1 a2 a3 a4 a5 a6 a7 a8 => absurd ⟨e, t, h, a1, a2, a3, a4, a5, a6, a7, a8⟩ z)
      all_goals have := nTx a4 (by omega)
      all_goals have := nTx a5 (by omega)
      all_goals have := nTx a6 (by omega)
      all_goals unfold zBadSend at c
      all_goals omega
  · exact zEx.no (fun mem I => hn I.nx)
end S4
