/-! the steps of rows, of kinds, of what is asked, of ranks -/
def zrel (x : Nat) : Prop := x = 109 ∨ (130 ≤ x ∧ x < 520) ∨ x = 771 ∨ (780 ≤ x ∧ x < 796) ∨ x = 1005 ∨ x = 1018 ∨ (3420 ≤ x ∧ x < 3760) ∨ (3880 ≤ x ∧ x < 3896)
section S2
variable {X : Nat} {xs : Nat → Int32} {nx u : Nat} {g : zH} {gs : Nat → zH} {im : Nat → Option zH} {b : Nat → Nat} {t : Nat} {mem mem' : zMem} {lk : zLk} {L : List Nat}
theorem zInv.rl (h : zInv X xs nx u g gs im b t mem lk L) (hX : X ≤ 3072) (hf : ∀ x, ¬ zrel x → ¬ zscr x ∨ (744 ≤ x ∧ x < 766) ∨ (10192 ≤ x ∧ x < 10293) → mem' x = mem x) (hr : zIr mem') : zInv X xs nx u g gs im b t mem' lk L := by
  obtain ⟨s, c, m, r, C, st, sx⟩ := h
  have s0 := s.1.le.1
  have st110 := s.2.2.1
  refine ⟨s, ?_, ?_, hr, C.sm (hf _ (by unfold zrel; omega) (by omega)) (hf _ (by unfold zrel; omega) (by omega)) (fun x a b => hf _ (by unfold zrel; omega) (by omega)) (fun x a b => hf _ (by unfold zrel; omega) (by omega)), st.sm (fun x a b => hf _ (by unfold zrel; omega) (by unfold zscr; omega)), fun i hi => by rw [hf _ (by unfold zrel; omega) (by unfold zscr; omega)]; exact sx i hi⟩
  · obtain ⟨a1, a2, a3, a4, a5, a6, a7, a8⟩ := c
    refine ⟨a1, a2, a3.same s0 (fun j hj => hf _ (by unfold zrel; omega) (by unfold zscr; omega)), a4.sm (hf _ (by unfold zrel; omega) (by unfold zscr; omega)) (hf _ (by unfold zrel; omega) (by unfold zscr; omega)) (fun x h1 h2 => hf _ (by unfold zrel; omega) (by unfold zscr; omega)), a5.sm (fun x h1 h2 => hf _ (by unfold zrel; omega) (by unfold zscr; omega)), a6, ?_, fun i hi => ?_⟩
    · rw [hf _ (by unfold zrel; omega) (by unfold zscr; omega)]; exact a7
    · rw [hf _ (by unfold zrel; omega) (by unfold zscr; omega)]; exact a8 i hi
  · have c6 := c.im6
    obtain ⟨a1, a2, a3, a4, a5, a6⟩ := m
    refine ⟨a1, a2.same s0 (fun j hj => hf _ (by unfold zrel; omega) (by unfold zscr; omega)), a3.sm (hf _ (by unfold zrel; omega) (by unfold zscr; omega)) (fun x h1 h2 => hf _ (by unfold zrel; omega) (by unfold zscr; omega)), a4.sm c6 (fun x h1 h2 => hf _ (by unfold zrel; omega) (by unfold zscr; omega)) (fun x h1 h2 => hf _ (by unfold zrel; omega) (by unfold zscr; omega)), ?_, fun i hi => ?_⟩
    · rw [hf _ (by unfold zrel; omega) (by unfold zscr; omega)]; exact a5
    · rw [hf _ (by unfold zrel; omega) (by unfold zscr; omega)]; exact a6 i hi
/-- only the number of what was found is new -/
theorem zInv.fd (h : zInv X xs nx u g gs im b t mem lk L) (hX : X ≤ 3072) (hf : ∀ x, x ≠ 109 → x ≠ 1005 → ¬ zscr x ∨ (744 ≤ x ∧ x < 766) ∨ (10192 ≤ x ∧ x < 10293) → mem' x = mem x) (e : mem' 109 = mem' 1005) : zInv X xs nx u g gs im b t mem' lk L := by
  obtain ⟨⟨rl, rn, ri, h1, h2, h3⟩, h4, h5, l, h6, h7⟩ := h.rs
  refine h.rl hX (fun x a c => hf x (by unfold zrel at a; omega) (by unfold zrel at a; omega) c) ⟨⟨rl, rn, ri, h1.fr (fun x a b => hf _ (by omega) (by omega) (by unfold zscr; omega)), h2.fr (fun x a b => hf _ (by omega) (by omega) (by unfold zscr; omega)), h3⟩, e, ?_, l, h6.sm (hf _ (by omega) (by omega) (by unfold zscr; omega)) (fun x a b => hf _ (by omega) (by omega) (by unfold zscr; omega)), h7.sm (hf _ (by omega) (by omega) (by unfold zscr; omega)) (fun x a b => hf _ (by omega) (by omega) (by unfold zscr; omega))⟩
  rw [hf 533 (by omega) (by omega) (by unfold zscr; omega), hf 1004 (by omega) (by omega) (by unfold zscr; omega)]; exact h5
theorem zInv.f2 (h : zInv X xs nx u g gs im b t mem lk L) (hX : X ≤ 3072) {v : Int32} : zInv X xs nx u g gs im b t (upd (upd mem 109 v) 1005 v) lk L := h.fd hX (fun x a c _ => by rw [upd_ne c, upd_ne a]) (by rw [upd_ne (by omega), upd_eq, upd_eq])
/-- the rows are new, what was found is nothing -/
theorem zInv.rn (h : zInv X xs nx u g gs im b t mem lk L) (hX : X ≤ 3072) {rl rn : Nat → Nat} {ri : Nat → Int32} {m1 m2 : zMem} (c1 : zCR m1 rl rn ri) (e1 : m1 109 = nI 0) (f1 : ∀ x, ¬ (130 ≤ x ∧ x < 520) → x ≠ 109 → m1 x = mem x) (c2 : zMR m2 rl rn ri) (e2 : m2 1005 = nI 0) (f2 : ∀ x, ¬ (3420 ≤ x ∧ x < 3800) → x ≠ 1005 → m2 x = m1 x) (ho : zRowOk rl rn) : zInv X xs nx u g gs im b t m2 lk L := by
  obtain ⟨-, h4, h5, l, h6, h7⟩ := h.rs
  refine h.rl hX (fun x a c => by rw [f2 x (by unfold zrel zscr at *; omega) (by unfold zrel at a; omega), f1 x (by unfold zrel at a; omega) (by unfold zrel at a; omega)]) ⟨⟨rl, rn, ri, c1.fr (fun x a b => f2 x (by omega) (by omega)), c2, ho⟩, ?_, ?_, l, h6.sm ?_ (fun x a b => ?_), h7.sm ?_ (fun x a b => ?_)⟩
  · rw [f2 109 (by omega) (by omega), e1, e2]
  · rw [f2 533 (by omega) (by omega), f2 1004 (by omega) (by omega), f1 533 (by omega) (by omega), f1 1004 (by omega) (by omega)]; exact h5
  · rw [f2 _ (by omega) (by omega), f1 _ (by omega) (by omega)]
  · rw [f2 _ (by omega) (by omega), f1 _ (by omega) (by omega)]
  · rw [f2 _ (by omega) (by omega), f1 _ (by omega) (by omega)]
  · rw [f2 _ (by omega) (by omega), f1 _ (by omega) (by omega)]
theorem zRowOk.up {rl rn : Nat → Nat} (h : zRowOk rl rn) {r l n : Nat} (hl : l ≤ 2) (hn : n ≤ 40) : zRowOk (va_up rl r l) (va_up rn r n) := fun k hk h9 => by
  by_cases z : k = r
  · subst z; rw [zup_eq, zup_eq]; exact ⟨hl, hn⟩
  · rw [zup_ne z] at h9 ⊢
    rw [zup_ne z]; exact h k hk h9
theorem zRowOk.dr {rl rn : Nat → Nat} (h : zRowOk rl rn) {r : Nat} : zRowOk (va_up rl r 99) rn := fun k hk h9 => by
  by_cases z : k = r
  · subst z; rw [zup_eq] at h9; exact absurd rfl h9
  · rw [zup_ne z] at h9 ⊢; exact h k hk h9
theorem st_as {x y : Int32} (hX : X ≤ 3072) : zStp X 123 205 [.ref 100, .int x, .int y] [.ref 1000, .int x, .int y] lk L lk L (fun m => zInv X xs nx u g gs im b t m lk L) (fun m => zInv X xs nx u g gs im b t m lk L) := fun mem d Q I hd K => by
  have w0 := I.n.le.1
  have hbu : ∀ v, zHB (upd mem 109 v) 2000 g := fun v => I.rw.1.same w0 (fun j hj => upd_ne (by omega))
  refine ok_as (by omega) I.ks (I.h 0 (by omega)) I.hb I.n I.st (fun c => K _ mem (fun d' Q' hd' q' => ok_mas (by omega) I.ml I.rw.1 I.n (fun _ => q' mem I) (fun e k a1 a2 a3 a4 _ => ?_) (fun e k a1 a2 a3 a4 _ => ?_))) (fun e k a1 a2 a3 a4 a5 => K _ _ (fun d' Q' hd' q' => ok_mas (by omega) I.ml (hbu _) I.n (fun c => ?_) (fun e' k' b1 b2 b3 b4 _ => ?_) (fun e' k' b1 b2 b3 b4 b5 => ?_))) (fun e k a1 a2 a3 a4 a5 => K _ _ (fun d' Q' hd' q' => ok_mas (by omega) I.ml (hbu _) I.n (fun c => ?_) (fun e' k' b1 b2 b3 b4 b5 => ?_) (fun e' k' b1 b2 b3 b4 _ => ?_)))
  all_goals have h1 := nTx a2 (by omega)
  all_goals have h2 := nTx a4 (by omega)
  · omega
  · omega
  · omega
  · have h3 := nJ a2 b2 (by omega) (by omega)
    subst h3
    exact q' _ (I.f2 hX)
  · have h3 := nJ a2 b2 (by omega) (by omega)
    have h4 := nJ a4 b4 (by omega) (by omega)
    subst h3 h4
    exact absurd a5 b5
  · omega
  · have h3 := nJ a2 b2 (by omega) (by omega)
    have h4 := nJ a4 b4 (by omega) (by omega)
    subst h3 h4
    exact absurd b5 a5
  · exact q' _ (I.f2 hX)
theorem st_ask {x y : Int32} (hX : X ≤ 3072) : zStp X 124 215 [.ref 100, .int x, .int y] [.ref 1000, .int x, .int y] lk L lk L (fun m => zInv X xs nx u g gs im b t m lk L) (fun m => zInv X xs nx u g gs im b t m lk L) := fun mem d Q I hd K => by
  have w0 := I.n.le.1
  refine ok_ask (by omega) I.ks (I.h 0 (by omega)) I.hb I.n I.st (fun c => K _ mem (fun d' Q' hd' q' => ok_mask (by omega) I.ml I.rw.1 I.n (fun _ => q' mem I) (fun e w a1 a2 a3 a4 => ?_))) (fun e w a1 a2 a3 a4 m1 T1 f1 => K _ m1 (fun d' Q' hd' q' => ok_mask (by omega) I.ml (I.rw.1.same w0 (fun j hj => f1 _ (by omega) (by omega))) I.n (fun c => ?_) (fun e' w' b1 b2 b3 b4 m2 T2 f2 => ?_)))
  all_goals have h1 := nTx a2 (by omega)
  all_goals have h2 := nTx a3 (by omega)
  · omega
  · omega
  · have h3 := nJ a2 b2 (by omega) (by omega)
    have h4 := nJ a3 b3 (by omega) (by omega)
    subst h3 h4
    obtain ⟨⟨rl, rn, ri, c1, c2, c3⟩, h4, h5, -⟩ := I.rs
    refine q' m2 (I.rl hX (fun x a _ => by rw [f2 x (by unfold zrel at a; omega) (by unfold zrel at a; omega), f1 x (by unfold zrel at a; omega) (by unfold zrel at a; omega)]) ⟨⟨rl, rn, ri, c1.fr (fun x a b => by rw [f2 x (by omega) (by omega), f1 x (by omega) (by omega)]), c2.fr (fun x a b => by rw [f2 x (by omega) (by omega), f1 x (by omega) (by omega)]), c3⟩, ?_, ?_, _, T1.sm (f2 _ (by omega) (by omega)) (fun x a b => f2 _ (by omega) (by omega)), T2⟩)
    · rw [f2 109 (by omega) (by omega), f2 1005 (by omega) (by omega), f1 109 (by omega) (by omega), f1 1005 (by omega) (by omega)]; exact h4
    · rw [f2 533 (by omega) (by omega), f2 1004 (by omega) (by omega), f1 533 (by omega) (by omega), f1 1004 (by omega) (by omega)]; exact h5
theorem st_row {x y z : Int32} (hX : X ≤ 3072) : zStp X 91 142 [.ref 100, .int x, .int y, .int z] [.ref 1000, .int x, .int y, .int z] lk L lk L (fun m => zInv X xs nx u g gs im b t m lk L) (fun m => zInv X xs nx u g gs im b t m lk L) := fun mem d Q I hd K => by
  obtain ⟨rl, rn, ri, c1, c2, c3⟩ := I.rs.1
  refine ok_row (by omega) I.ks c1 (fun c => K _ mem (fun d' Q' hd' q' => ok_mrow (by omega) I.ml c2 (fun _ => q' mem I) (fun c' => absurd c c') (fun r l n a1 a2 a3 a4 a5 a6 => ?_))) (fun c cn => K _ _ (fun d' Q' hd' q' => ok_mrow (by omega) I.ml (c2.st (Or.inl (by omega))) (fun c' => absurd c' c) (fun _ _ => q' _ (I.f2 hX)) (fun r l n a1 a2 a3 a4 a5 a6 => ?_))) (fun r l n a1 a2 a3 a4 a5 a6 m1 k1 e1 f1 => K _ m1 (fun d' Q' hd' q' => ok_mrow (by omega) I.ml (c2.fr (fun x h1 h2 => f1 x (by omega) (by omega))) (fun c => ?_) (fun c cn => ?_) (fun r' l' n' b1 b2 b3 b4 b5 b6 m2 k2 e2 f2 => ?_)))
  all_goals have h1 := nTx a1 (by omega)
  all_goals have h2 := nTx a2 (by omega)
  all_goals have h3 := nTx a3 (by omega)
  · unfold zBadRow at c; omega
  · omega
  · unfold zBadRow at c; omega
  · omega
  · have j1 := nJ a1 b1 (by omega) (by omega)
    have j2 := nJ a2 b2 (by omega) (by omega)
    have j3 := nJ a3 b3 (by omega) (by omega)
    subst j1 j2 j3
    exact q' m2 (I.rn hX k1 e1 f1 k2 e2 (fun x h _ => f2 x (by omega) (by omega)) (c3.up a5 a6))
theorem st_drop {x : Int32} (hX : X ≤ 3072) : zStp X 94 145 [.ref 100, .int x] [.ref 1000, .int x] lk L lk L (fun m => zInv X xs nx u g gs im b t m lk L) (fun m => zInv X xs nx u g gs im b t m lk L) := fun mem d Q I hd K => by
  obtain ⟨rl, rn, ri, c1, c2, c3⟩ := I.rs.1
  refine ok_drop (by omega) I.ks c1 c3 (fun c => K _ mem (fun d' Q' hd' q' => ok_mdrop (by omega) I.ml c2 c3 (fun _ => q' mem I) (fun r a1 a2 => ?_) (fun r a1 a2 => ?_))) (fun r a1 a2 a3 => K _ _ (fun d' Q' hd' q' => ok_mdrop (by omega) I.ml (c2.st (Or.inl (by omega))) c3 (fun c => ?_) (fun r' b1 b2 b3 => q' _ (I.f2 hX)) (fun r' b1 b2 b3 => ?_))) (fun r a1 a2 a3 m1 k1 e1 f1 => K _ m1 (fun d' Q' hd' q' => ok_mdrop (by omega) I.ml (c2.fr (fun x h1 h2 => f1 x (by omega) (by omega))) c3 (fun c => ?_) (fun r' b1 b2 b3 => ?_) (fun r' b1 b2 b3 m2 k2 e2 f2 => ?_)))
  all_goals have h1 := nTx a2 (by omega)
  · unfold zNoRow at c; omega
  · unfold zNoRow at c; omega
  · unfold zNoRow at c; omega
  · have j1 := nJ a2 b2 (by omega) (by omega)
    subst j1
    exact absurd a3 b3
  · unfold zNoRow at c; omega
  · have j1 := nJ a2 b2 (by omega) (by omega)
    subst j1
    exact absurd b3 a3
  · have j1 := nJ a2 b2 (by omega) (by omega)
    subst j1
    exact q' m2 (I.rn hX k1 e1 f1 k2 e2 (fun x h _ => f2 x (by omega) (by omega)) c3.dr)
theorem st_set {x i v : Int32} (hX : X ≤ 3072) : zStp X 92 143 [.ref 100, .int x, .int i, .int v] [.ref 1000, .int x, .int i, .int v] lk L lk L (fun m => zInv X xs nx u g gs im b t m lk L) (fun m => zInv X xs nx u g gs im b t m lk L) := fun mem d Q I hd K => by
  obtain ⟨rl, rn, ri, c1, c2, c3⟩ := I.rs.1
  refine ok_set (by omega) I.ks c1 c3 (fun c => K _ mem (fun d' Q' hd' q' => ok_mset (by omega) I.ml c2 c3 (fun _ => q' mem I) (fun r a1 a2 => ?_) (fun r a1 a2 => ?_) (fun r a a1 a2 => ?_))) (fun r a1 a2 a3 => K _ _ (fun d' Q' hd' q' => ok_mset (by omega) I.ml (c2.st (Or.inl (by omega))) c3 (fun c => ?_) (fun r' b1 b2 b3 => q' _ (I.f2 hX)) (fun r' b1 b2 b3 => ?_) (fun r' a' b1 b2 b3 => ?_))) (fun r a1 a2 a3 a4 => K _ _ (fun d' Q' hd' q' => ok_mset (by omega) I.ml (c2.st (Or.inl (by omega))) c3 (fun c => ?_) (fun r' b1 b2 b3 => ?_) (fun r' b1 b2 b3 _ => q' _ (I.f2 hX)) (fun r' a' b1 b2 b3 b4 b5 => ?_))) (fun r a a1 a2 a3 a4 a5 m1 k1 e1 f1 => K _ m1 (fun d' Q' hd' q' => ok_mset (by omega) I.ml (c2.fr (fun x h1 h2 => f1 x (by omega) (by omega))) c3 (fun c => ?_) (fun r' b1 b2 b3 => ?_) (fun r' b1 b2 b3 b4 => ?_) (fun r' a' b1 b2 b3 b4 b5 m2 k2 e2 f2 => ?_)))
  all_goals have h1 := nTx a2 (by omega)
  · unfold zNoRow at c; omega
  · unfold zNoRow at c; omega
  · unfold zNoRow at c; omega
  · unfold zNoRow at c; omega
  · have j1 := nJ a2 b2 (by omega) (by omega)
    subst j1
    exact absurd a3 b3
  · have j1 := nJ a2 b2 (by omega) (by omega)
    subst j1
    exact absurd a3 b3
  · unfold zNoRow at c; omega
  · have j1 := nJ a2 b2 (by omega) (by omega)
    subst j1
    exact absurd b3 a3
  · have j1 := nJ a2 b2 (by omega) (by omega)
    subst j1
    have h40 := (c3 r a1 a3).2
    have := nTx b4 (by omega)
    have e1' : (nI 1).toInt = 1 := nT (by omega)
    unfold zNoCov at a4
    rw [e1'] at a4
    omega
  · unfold zNoRow at c; omega
  · have j1 := nJ a2 b2 (by omega) (by omega)
    subst j1
    exact absurd b3 a3
  · have j1 := nJ a2 b2 (by omega) (by omega)
    subst j1
    have h40 := (c3 r a1 a3).2
    have := nTx a4 (by omega)
    have e1' : (nI 1).toInt = 1 := nT (by omega)
    unfold zNoCov at b4
    rw [e1'] at b4
    omega
  · have j1 := nJ a2 b2 (by omega) (by omega)
    subst j1
    have h40 := (c3 r a1 a3).2
    have j2 := nJ a4 b4 (by omega) (by omega)
    subst j2
    exact q' m2 (I.rn hX k1 e1 f1 k2 e2 (fun x h _ => f2 x (by omega) (by omega)) c3)
theorem st_copy {x i y j n : Int32} (hX : X ≤ 3072) : zStp X 93 144 [.ref 100, .int x, .int i, .int y, .int j, .int n] [.ref 1000, .int x, .int i, .int y, .int j, .int n] lk L lk L (fun m => zInv X xs nx u g gs im b t m lk L) (fun m => zInv X xs nx u g gs im b t m lk L) := fun mem d Q I hd K => by
  obtain ⟨rl, rn, ri, c1, c2, c3⟩ := I.rs.1
  refine ok_copy (by omega) I.ks c1 c3 (fun c => K _ mem (fun d' Q' hd' q' => ok_mcopy (by omega) I.ml c2 c3 (fun _ => q' mem I) (fun r s a1 a2 a3 a4 => ?_) (fun r s a1 a2 a3 a4 => ?_) (fun r s a1 a2 a3 a4 => ?_) (fun r s a b' c' a1 a2 a3 a4 => ?_)))
    (fun r s a1 a2 a3 a4 a5 => K _ _ (fun d' Q' hd' q' => ok_mcopy (by omega) I.ml (c2.st (Or.inl (by omega))) c3 (fun c => ?_) (fun r' s' b1 b2 b3 b4 b5 => q' _ (I.f2 hX)) (fun r' s' b1 b2 b3 b4 b5 b6 => ?_) (fun r' s' b1 b2 b3 b4 b5 b6 => ?_) (fun r' s' a b' c' b1 b2 b3 b4 b5 b6 => ?_)))
    (fun r s a1 a2 a3 a4 a5 a6 a7 => K _ _ (fun d' Q' hd' q' => ok_mcopy (by omega) I.ml (c2.st (Or.inl (by omega))) c3 (fun c => ?_) (fun r' s' b1 b2 b3 b4 b5 => ?_) (fun r' s' b1 b2 b3 b4 b5 b6 b7 => q' _ (I.f2 hX)) (fun r' s' b1 b2 b3 b4 b5 b6 b7 => ?_) (fun r' s' a b' c' b1 b2 b3 b4 b5 b6 b7 => ?_)))
    (fun r s a1 a2 a3 a4 a5 a6 a7 a8 => K _ _ (fun d' Q' hd' q' => ok_mcopy (by omega) I.ml (c2.st (Or.inl (by omega))) c3 (fun c => ?_) (fun r' s' b1 b2 b3 b4 b5 => ?_) (fun r' s' b1 b2 b3 b4 b5 b6 b7 => ?_) (fun r' s' b1 b2 b3 b4 b5 b6 b7 b8 => q' _ (I.f2 hX)) (fun r' s' a b' c' b1 b2 b3 b4 b5 b6 b7 b8 b9 b10 b11 b12 => ?_)))
    (fun r s a b0 c0 a1 a2 a3 a4 a5 a6 a7 a8 a9 a10 a11 a12 m1 k1 e1 f1 => K _ m1 (fun d' Q' hd' q' => ok_mcopy (by omega) I.ml (c2.fr (fun x h1 h2 => f1 x (by omega) (by omega))) c3 (fun c => ?_) (fun r' s' b1 b2 b3 b4 b5 => ?_) (fun r' s' b1 b2 b3 b4 b5 b6 b7 => ?_) (fun r' s' b1 b2 b3 b4 b5 b6 b7 b8 => ?_) (fun r' s' a' b' c' b1 b2 b3 b4 b5 b6 b7 b8 b9 b10 b11 b12 m2 k2 e2 f2 => ?_)))
  all_goals have h1 := nTx a3 (by omega)
  all_goals have h2 := nTx a4 (by omega)
  all_goals first
    | (unfold zNoRow at c; omega)
    | skip
  all_goals have j1 := nJ a3 b3 (by omega) (by omega)
  all_goals have j2 := nJ a4 b4 (by omega) (by omega)
  all_goals subst j1 j2
  · rcases a5 with z | z
    · exact absurd z b5
    · exact absurd z b6
  · rcases a5 with z | z
    · exact absurd z b5
    · exact absurd z b6
  · rcases a5 with z | z
    · exact absurd z b5
    · exact absurd z b6
  · rcases b5 with z | z
    · exact absurd z a5
    · exact absurd z a6
  · exact absurd b7 a7
  · exact absurd b7 a7
  · rcases b5 with z | z
    · exact absurd z a5
    · exact absurd z a6
  · exact absurd a7 b7
  · have u1 := (c3 r a1 a5).2
    have u2 := (c3 s a2 a6).2
    have v1 := nTx b8 (by omega)
    have v2 := nTx b9 (by omega)
    have v3 := nTx b10 (by omega)
    unfold zNoCov at a8
    omega
  · rcases b5 with z | z
    · exact absurd z a5
    · exact absurd z a6
  · exact absurd a7 b7
  · have u1 := (c3 r a1 a5).2
    have u2 := (c3 s a2 a6).2
    have v1 := nTx a8 (by omega)
    have v2 := nTx a9 (by omega)
    have v3 := nTx a10 (by omega)
    unfold zNoCov at b8
    omega
  · have u1 := (c3 r a1 a5).2
    have u2 := (c3 s a2 a6).2
    have j3 := nJ a8 b8 (by omega) (by omega)
    have j4 := nJ a9 b9 (by omega) (by omega)
    have j5 := nJ a10 b10 (by omega) (by omega)
    subst j3 j4 j5
    exact q' m2 (I.rn hX k1 e1 f1 k2 e2 (fun x h h' => f2 x h h') c3)
theorem st_ranks {x y : Int32} (hX : X ≤ 3072) : zStp X 113 192 [.ref 100, .int x, .int y] [.ref 1000, .int x, .int y] lk L lk L (fun m => zInv X xs nx u g gs im b t m lk L) (fun m => zInv X xs nx u g gs im b t m lk L) := fun mem d Q I hd K => by
  have w0 := I.n.le.1
  refine ok_ranks (by omega) I.ks (I.h 3 (by omega)) (I.h 4 (by omega)) (I.h 0 (by omega)) I.hb I.n I.2.2.2.2.1 (fun c => K _ mem (fun d' Q' hd' q' => ok_mranks (by omega) I.ml I.rw I.n (fun _ => q' mem I) (fun _ _ => by omega) (fun n c2 => by omega) (fun n c2 => by omega))) (fun h0 c => K _ mem (fun d' Q' hd' q' => ok_mranks (by omega) I.ml I.rw I.n (fun _ => by omega) (fun _ _ => q' mem I) (fun n _ ex hn hy => ?_) (fun n _ ex hn hy => ?_))) (fun n h0 ex hn hy => K _ mem (fun d' Q' hd' q' => ok_mranks (by omega) I.ml I.rw I.n (fun _ => by omega) (fun _ c => ?_) (fun n' _ ex' hn' hy' m2 f2 => q' m2 (I.sc2 hX (fun x hx => f2 x (by unfold zscr at hx; omega) (by unfold zscr at hx; omega) (by unfold zscr at hx; omega)))) (fun n' _ ex' hn' h1 h2 => by omega))) (fun n gs' h0 ex hn h1 h2 hsm m1 C1 f1 => K _ m1 (fun d' Q' hd' q' => ?_))
  · have := nTx ex (by omega)
    omega
  · have := nTx ex (by omega)
    omega
  · have := nTx ex (by omega)
    omega
  · have I1 : zInv X xs nx u g gs im b t m1 lk L := I.sc hX (fun x hx => f1 x (by unfold zscr at hx; omega) (by unfold zscr at hx; omega) (by unfold zscr at hx; omega) (by unfold zscr at hx; omega) (by unfold zscr at hx; omega) (by unfold zscr at hx; omega)) C1
    have wf := I.n.wf h0
    have e0 : g 0 = gs' 0 := hsm.1 0 (by omega)
    have hr' : zRw m1 0 gs' := ⟨hsm.hb I1.rw.1, by rw [← e0]; exact I1.rw.2⟩
    have hN' : zNow gs' := by
      refine Or.inl ⟨?_, by omega, by rw [← hsm.1 6 (by omega)]; exact wf.2⟩
      obtain ⟨a0, a1, a2, a3, a4, a5, a6, a7, a8⟩ := wf.1
      refine ⟨by omega, by rw [← hsm.1 1 (by omega)]; exact a1, by rw [← hsm.1 1 (by omega)]; exact a2, by rw [← hsm.1 2 (by omega)]; exact a3, by rw [← hsm.1 3 (by omega)]; exact a4, by rw [← hsm.1 4 (by omega), ← hsm.1 1 (by omega)]; exact a5, by rw [← hsm.1 5 (by omega)]; exact a6, by rw [← hsm.1 6 (by omega)]; exact a7, fun e he => ?_⟩
      have he' : e < g 0 := by omega
      have k0 := hsm.2 0 e (by omega) he'
      have k1 := hsm.2 1 e (by omega) he'
      have k2 := hsm.2 2 e (by omega) he'
      have k3 := hsm.2 3 e (by omega) he'
      have k4 := hsm.2 4 e (by omega) he'
      rw [show 7 + 6 * 0 + e = 7 + e by omega] at k0
      rw [show 7 + 6 * 1 + e = 13 + e by omega] at k1
      rw [show 7 + 6 * 2 + e = 19 + e by omega] at k2
      rw [show 7 + 6 * 3 + e = 25 + e by omega] at k3
      rw [show 7 + 6 * 4 + e = 31 + e by omega] at k4
      rw [← k0, ← k1, ← k2, ← k3, ← k4, ← hsm.1 1 (by omega)]
      exact a8 e he'
    have hx := nTx ex (by omega)
    refine ok_mranks (by omega) I.ml hr' hN' (fun _ => by omega) (fun _ c => by omega) (fun n' _ ex' hn' hy' => by omega) (fun n' _ ex' hn' g1 g2 m2 f2 => ?_)
    have j := nJ ex ex' (by omega) (by omega)
    subst j
    exact q' m2 (I1.sc2 hX (fun x hx => f2 x (by unfold zscr at hx; omega) (by unfold zscr at hx; omega) (by unfold zscr at hx; omega)))
end S2
