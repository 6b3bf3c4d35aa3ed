/-! what holds between two calls of the law -/
/-- places that may hold anything between two calls -/
def zscr (x : Nat) : Prop := (10064 ≤ x ∧ x < 10101) ∨ (10128 ≤ x ∧ x < 10165) ∨ x = 532 ∨ x = 534 ∨ (11984 ≤ x ∧ x < 12560) ∨ x = 744 ∨ x = 745 ∨ (750 ≤ x ∧ x < 756) ∨ (760 ≤ x ∧ x < 766) ∨ (10192 ≤ x ∧ x < 10229) ∨ (10256 ≤ x ∧ x < 10293) ∨ (1010 ≤ x ∧ x ≤ 1012) ∨ (2043 ≤ x ∧ x < 2086) ∨ (2172 ≤ x ∧ x < 2215) ∨ (3760 ≤ x ∧ x < 3816) ∨ (3820 ≤ x ∧ x < 3865)
def zIc (mem : zMem) (lk : zLk) (L : List Nat) (nx u : Nat) (g : zH) (gs : Nat → zH) (im : Nat → Option zH) (b : Nat → Nat) (t : Nat) : Prop :=
  zKs lk ∧ (∀ i, i < 5 → zHo lk (10000 + 64 * i)) ∧ zHB mem 10000 g ∧ zActs mem lk L nx u gs ∧ zImg mem lk L im ∧ zLine lk L ∧ mem 531 = nI t ∧ ∀ i, i < t → mem (540 + i) = nI (b i)
def zIm (mem : zMem) (lk : zLk) (u : Nat) (g : zH) (gs : Nat → zH) (im : Nat → Option zH) (b : Nat → Nat) (t : Nat) : Prop :=
  zML lk ∧ zRw mem 0 g ∧ zMActs mem u gs ∧ zMImg mem im ∧ mem 1003 = nI t ∧ ∀ i, i < t → mem (3300 + i) = nI (b i)
def zIs (u : Nat) (g : zH) (gs : Nat → zH) (b : Nat → Nat) (t : Nat) : Prop := zNow g ∧ (∀ k, k < u → zWF (gs k) ∧ 1 ≤ gs k 0 ∧ gs k 6 ≤ 999) ∧ zby b t
def zIr (mem : zMem) : Prop := (∃ rl rn ri, zCR mem rl rn ri ∧ zMR mem rl rn ri ∧ zRowOk rl rn) ∧ mem 109 = mem 1005 ∧ mem 533 = mem 1004 ∧ ∃ l, zTr mem 771 780 l ∧ zTr mem 1018 3880 l
def zInv (X : Nat) (xs : Nat → Int32) (nx u : Nat) (g : zH) (gs : Nat → zH) (im : Nat → Option zH) (b : Nat → Nat) (t : Nat) (mem : zMem) (lk : zLk) (L : List Nat) : Prop :=
  zIs u g gs b t ∧ zIc mem lk L nx u g gs im b t ∧ zIm mem lk u g gs im b t ∧ zIr mem ∧ zCache mem ∧ zSt mem ∧ ∀ i, i < X → mem (5000 + i) = xs i
theorem zSt.sm {m1 m2 : zMem} (h : zSt m1) (hf : ∀ x, 4000 ≤ x → x < 4040 → m2 x = m1 x) : zSt m2 :=
  ⟨fun i hi => by rw [hf _ (by omega) (by omega)]; exact h.1 i hi, fun i hi => by rw [hf _ (by omega) (by omega)]; exact h.2.1 i hi, fun i hi => by rw [hf _ (by omega) (by omega)]; exact h.2.2.1 i hi, fun i hi => by rw [hf _ (by omega) (by omega)]; exact h.2.2.2 i hi⟩
theorem zTr.sm {m1 m2 : zMem} {c b : Nat} {l : List Nat} (h : zTr m1 c b l) (h1 : m2 c = m1 c) (h2 : ∀ x, b ≤ x → x < b + 16 → m2 x = m1 x) : zTr m2 c b l :=
  ⟨h1.trans h.1, fun i hi hl => by rw [h2 _ (by omega) (by omega)]; exact h.2 i hi hl⟩
theorem zActs.sm {m1 m2 : zMem} {lk : zLk} {L : List Nat} {nx u : Nat} {gs : Nat → zH} (A : zActs m1 lk L nx u gs) (h1 : m2 661 = m1 661) (h2 : m2 662 = m1 662) (h3 : ∀ x, 10320 ≤ x → x < 11856 → m2 x = m1 x) : zActs m2 lk L nx u gs := by
  obtain ⟨a1, a2, a3, a4, a5, a6, a7, a8⟩ := A
  refine ⟨a1, a2, h1.trans a3, h2.trans a4, a5, a6, a7, fun k hk => ?_⟩
  obtain ⟨b1, b2, b3⟩ := a8 k hk
  have : (nx + 23 - k) % 24 < 24 := Nat.mod_lt _ (by omega)
  exact ⟨b1, b2.same b3.1 (fun j hj => h3 _ (by unfold zAH; omega) (by unfold zAH; omega)), b3⟩
theorem zMActs.sm {m1 m2 : zMem} {u : Nat} {gs : Nat → zH} (A : zMActs m1 u gs) (h1 : m2 1001 = m1 1001) (h2 : ∀ x, 2215 ≤ x → x < 3247 → m2 x = m1 x) : zMActs m2 u gs := by
  have hu := A.1
  refine ⟨A.1, h1.trans A.2.1, fun k hk => ?_⟩
  obtain ⟨b1, b2⟩ := A.2.2 k hk
  exact ⟨b1.same b2.1 (fun j hj => h2 _ (by omega) (by omega)), b2⟩
theorem zImg.sm {m1 m2 : zMem} {lk : zLk} {L : List Nat} {im : Nat → Option zH} (I : zImg m1 lk L im) (h : ∀ x, 11856 ≤ x → x < 11984 → m2 x = m1 x) : zImg m2 lk L im := fun k hk => by
  refine ⟨(I k hk).1, fun gk hg => ?_⟩
  obtain ⟨b1, b2, b3, b4, b5⟩ := (I k hk).2 gk hg
  exact ⟨b1, b2, b3.same b4.1 (fun j hj => h _ (by unfold zIH; omega) (by unfold zIH; omega)), b4, b5⟩
theorem zMImg.sm {m1 m2 : zMem} {im : Nat → Option zH} (I : zMImg m1 im) (h6 : ∀ k gk, k < 2 → im k = some gk → gk 0 ≤ 6) (h : ∀ x, 2086 ≤ x → x < 2172 → m2 x = m1 x) (h2 : ∀ x, 3870 ≤ x → x < 3872 → m2 x = m1 x) : zMImg m2 im := fun k hk => by
  refine ⟨fun z => by rw [h2 _ (by omega) (by omega)]; exact (I k hk).1 z, fun gk hg => ?_⟩
  obtain ⟨b1, b2⟩ := (I k hk).2 gk hg
  exact ⟨by rw [h2 _ (by omega) (by omega)]; exact b1, b2.same (h6 k gk hk hg) (fun j hj => h _ (by omega) (by omega))⟩
theorem zCache.sm {m1 m2 : zMem} (C : zCache m1) (h1 : m2 744 = m1 744) (h2 : m2 745 = m1 745) (h3 : ∀ x, 750 ≤ x → x < 766 → m2 x = m1 x) (h4 : ∀ x, 10256 ≤ x → x < 10293 → m2 x = m1 x) : zCache m2 := by
  obtain ⟨⟨o, hO⟩, k, e, hk, hc⟩ := C
  refine ⟨⟨o, hO.fr (fun x a b => h3 x a (by omega))⟩, k, h1.trans e, hk, ?_⟩
  rcases hc with z | ⟨gs, s1, s2, s3, s4, s5⟩
  · exact Or.inl z
  · exact Or.inr ⟨gs, s1.same s2.1 (fun j hj => h4 _ (by omega) (by omega)), s2, s3, s4, s5.fr s2.1 (fun x hx => by
      rcases hx with z | z
      · rw [z]; exact h2
      · exact h3 x (by omega) (by omega))⟩
section IV
variable {X : Nat} {xs : Nat → Int32} {nx u : Nat} {g : zH} {gs : Nat → zH} {im : Nat → Option zH} {b : Nat → Nat} {t : Nat} {mem mem' : zMem} {lk : zLk} {L : List Nat}
theorem zIc.sm (h : zIc mem lk L nx u g gs im b t) (h0 : g 0 ≤ 6) (ht : t ≤ 110) (hf : ∀ x, x < 1000 ∨ 10000 ≤ x → ¬ zscr x → mem' x = mem x) : zIc mem' lk L nx u g gs im b t := by
  obtain ⟨a1, a2, a3, a4, a5, a6, a7, a8⟩ := h
  refine ⟨a1, a2, a3.same h0 (fun j hj => hf _ (by omega) (by unfold zscr; omega)), a4.sm (hf _ (by omega) (by unfold zscr; omega)) (hf _ (by omega) (by unfold zscr; omega)) (fun x h1 h2 => hf _ (by omega) (by unfold zscr; omega)), a5.sm (fun x h1 h2 => hf _ (by omega) (by unfold zscr; omega)), a6, ?_, fun i hi => ?_⟩
  · rw [hf _ (by omega) (by unfold zscr; omega)]; exact a7
  · rw [hf _ (by omega) (by unfold zscr; omega)]; exact a8 i hi
theorem zIm.sm (h : zIm mem lk u g gs im b t) (h0 : g 0 ≤ 6) (ht : t ≤ 110) (h6 : ∀ k gk, k < 2 → im k = some gk → gk 0 ≤ 6) (hf : ∀ x, 1000 ≤ x → x < 4000 → ¬ zscr x → mem' x = mem x) : zIm mem' lk u g gs im b t := by
  obtain ⟨a1, a2, a3, a4, a5, a6⟩ := h
  refine ⟨a1, a2.same h0 (fun j hj => hf _ (by omega) (by omega) (by unfold zscr; omega)), a3.sm (hf _ (by omega) (by omega) (by unfold zscr; omega)) (fun x h1 h2 => hf _ (by omega) (by omega) (by unfold zscr; omega)), a4.sm h6 (fun x h1 h2 => hf _ (by omega) (by omega) (by unfold zscr; omega)) (fun x h1 h2 => hf _ (by omega) (by omega) (by unfold zscr; omega)), ?_, fun i hi => ?_⟩
  · rw [hf _ (by omega) (by omega) (by unfold zscr; omega)]; exact a5
  · rw [hf _ (by omega) (by omega) (by unfold zscr; omega)]; exact a6 i hi
theorem zIr.sm (h : zIr mem) (hf : ∀ x, ¬ zscr x → mem' x = mem x) : zIr mem' := by
  obtain ⟨⟨rl, rn, ri, h1, h2, h3⟩, h4, h5, l, h6, h7⟩ := h
  refine ⟨⟨rl, rn, ri, h1.fr (fun x a b => hf _ (by unfold zscr; omega)), h2.fr (fun x a b => ?_), h3⟩, ?_, ?_, l, h6.sm (hf _ (by unfold zscr; omega)) (fun x a b => hf _ (by unfold zscr; omega)), h7.sm (hf _ (by unfold zscr; omega)) (fun x a b => hf _ (by unfold zscr; omega))⟩
  · exact hf _ (by unfold zscr; omega)
  · rw [hf 109 (by unfold zscr; omega), hf 1005 (by unfold zscr; omega)]; exact h4
  · rw [hf 533 (by unfold zscr; omega), hf 1004 (by unfold zscr; omega)]; exact h5
theorem zIc.im6 (h : zIc mem lk L nx u g gs im b t) : ∀ k gk, k < 2 → im k = some gk → gk 0 ≤ 6 := fun k gk hk hg => ((h.2.2.2.2.1 k hk).2 gk hg).2.2.2.1.1
/-- what may hold anything may change -/
theorem zInv.sc (h : zInv X xs nx u g gs im b t mem lk L) (hX : X ≤ 3072) (hf : ∀ x, ¬ zscr x → mem' x = mem x) (hC : zCache mem') : zInv X xs nx u g gs im b t mem' lk L := by
  obtain ⟨s, c, m, r, _, st, sx⟩ := h
  refine ⟨s, c.sm s.1.le.1 s.2.2.1 (fun x _ h => hf x h), m.sm s.1.le.1 s.2.2.1 c.im6 (fun x _ _ h => hf x h), r.sm hf, hC, st.sm (fun x a b => hf x (by unfold zscr; omega)), fun i hi => by rw [hf _ (by unfold zscr; omega)]; exact sx i hi⟩
theorem zInv.sc2 (h : zInv X xs nx u g gs im b t mem lk L) (hX : X ≤ 3072) (hf : ∀ x, ¬ zscr x ∨ (744 ≤ x ∧ x < 766) ∨ (10192 ≤ x ∧ x < 10293) → mem' x = mem x) : zInv X xs nx u g gs im b t mem' lk L :=
  h.sc hX (fun x hx => hf x (Or.inl hx)) (h.2.2.2.2.1.sm (hf _ (by omega)) (hf _ (by omega)) (fun x a b => hf _ (by omega)) (fun x a b => hf _ (by omega)))
end IV
