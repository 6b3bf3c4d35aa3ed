/-! the reference: minds, undo -/
def zRw (mem : zMem) (r : Nat) (g : zH) : Prop := zHB mem (2000 + r) g ∧ zRk mem (2000 + r) (fun e => e) (g 0)
theorem zRw.cp {mem mem' : zMem} {a b : Nat} {g : zH} (h : zRw mem a g) (h6 : g 0 ≤ 6) (hc : ∀ k, k < 43 → mem' (2000 + b + k) = mem (2000 + a + k)) : zRw mem' b g :=
  ⟨⟨fun k hk => by rw [hc k (by omega)]; exact h.1.1 k hk, fun f e hf he => by rw [hc _ (by omega)]; exact h.1.2 f e hf he⟩,
   fun e he => ⟨by rw [show 2000 + b + 37 + e = 2000 + b + (37 + e) by omega, hc _ (by omega), show 2000 + a + (37 + e) = 2000 + a + 37 + e by omega]; exact (h.2 e he).1, he⟩⟩
theorem zRw.same {mem mem' : zMem} {a : Nat} {g : zH} (h : zRw mem a g) (h6 : g 0 ≤ 6) (hc : ∀ k, k < 43 → mem' (2000 + a + k) = mem (2000 + a + k)) : zRw mem' a g := h.cp h6 hc
def zMActs (mem : zMem) (u : Nat) (gs : Nat → zH) : Prop := u ≤ 24 ∧ mem 1001 = nI u ∧ ∀ k, k < u → zRw mem (215 + 43 * (u - 1 - k)) (gs k) ∧ zWF (gs k)
section MA
variable {X d : Nat} {mem : zMem} {lk : zLk} {L : List Nat} {Q : Option Value → zMem → Prop} {g : zH} {u : Nat} {gs : Nat → zH}
theorem nmul {a b : Nat} : nI a * nI b = nI (a * b) := pk_mul a b
/-- what minds leaves -/
def zmfr (mem mem' : zMem) : Prop := ∀ x, x ≠ 1001 → ¬ (2215 ≤ x ∧ x < 3247) → mem' x = mem x
theorem minds_tail {v1 : Value} (hd : 1 < d) (hw : lk 1000 = some 2000) (hr : zRw mem 0 g) (wf : zWF g) (hu : u < 24) (e1 : mem 1001 = nI u) (hA : ∀ k, k < u → zRw mem (215 + 43 * (u - 1 - k)) (gs k) ∧ zWF (gs k))
    (q : ∀ mem', zMActs mem' (u + 1) (zpsh g gs) → zmfr mem mem' → Q none mem') : zE X d 170 57 [.ref 1000, v1] [] mem lk L lk L Q := by
  have ea : nI 215 + nI 43 * mem (1000 + 1) = nI (215 + 43 * u) := by rw [show mem (1000 + 1) = nI u from e1, nmul, nI_add]
  refine zE_do 60 57 (tbl := tX8_minds) zck_170 rfl (h := ?_)
  refine ⟨rfl, rfl, ?_⟩
  rw [ea]
  refine ok_copyOf (a := 0) (b := 215 + 43 * u) (by omega) (by omega) (by omega) (by omega) hw (fun m1 hc hf => ⟨rfl, rfl, rfl, rfl, ?_⟩)
  show Q none (upd m1 (1000 + 1) (m1 (1000 + 1) + nI 1))
  have e2 : m1 (1000 + 1) = nI u := by rw [hf _ (by omega)]; exact e1
  rw [e2, nI_add]
  refine q _ ⟨by omega, upd_eq, fun k hk => ?_⟩ (fun x h1 h2 => by rw [upd_ne (by omega)]; exact hf x (by omega))
  by_cases c : k = 0
  · subst c
    rw [zpsh_0, show u + 1 - 1 - 0 = u by omega]
    exact ⟨hr.cp wf.1 (fun j hj => by rw [upd_ne (by omega)]; exact hc j hj), wf⟩
  · obtain ⟨b1, b2⟩ := hA (k - 1) (by omega)
    rw [zpsh_s c, show u + 1 - 1 - k = u - 1 - (k - 1) by omega]
    refine ⟨b1.same b2.1 (fun j hj => ?_), b2⟩
    rw [upd_ne (by omega)]
    exact hf _ (by omega)
theorem minds_loop (hd : 1 < d) (hw : lk 1000 = some 2000) (hr : zRw mem 0 g) (wf : zWF g) (e1 : mem 1001 = nI 24) (hA : ∀ k, k < 24 → zRw mem (215 + 43 * (23 - k)) (gs k) ∧ zWF (gs k))
    (q : ∀ mem', zMActs mem' 24 (zpsh g gs) → zmfr mem mem' → Q none mem') : ∀ n i m1, i + n = 989 → (∀ j, j < i → m1 (2215 + j) = mem (2215 + j + 43)) → (∀ x, ¬ (2215 ≤ x ∧ x < 2215 + i) → m1 x = mem x) → zE X d 170 11 [.ref 1000, .int (nI i)] [] m1 lk L lk L Q := by
  intro n
  induction n with
  | zero =>
    intro i m1 hi h1 h2
    have c1 : (nI 989 ≤ nI i) := by rw [nLe (by omega) (by omega)]; omega
    refine zgoc [57] 60 11 (tbl := tX8_minds) zck_170 rfl (h := ?_)
    refine ⟨fun _ => ⟨rfl, rfl, ?_⟩, fun c => absurd c1 c⟩
    have e2 : m1 (1000 + 1) = nI 24 := by rw [h2 _ (by omega)]; exact e1
    rw [e2, nsub (by omega) (by omega)]
    have hsh : ∀ j, 43 ≤ j → j < 1032 → m1 (2215 + (j - 43)) = mem (2215 + j) := fun j hj hj2 => by rw [h1 _ (by omega), show 2215 + (j - 43) + 43 = 2215 + j by omega]
    refine minds_tail (u := 23) (gs := gs) hd hw (hr.same wf.1 (fun k hk => ?_)) wf (by omega) upd_eq (fun k hk => ?_) (fun m2 A2 f2 => q m2 A2 (fun x x1 x2 => ?_))
    · rw [upd_ne (by omega), h2 _ (by omega)]
    · obtain ⟨b1, b2⟩ := hA k (by omega)
      refine ⟨b1.cp b2.1 (fun j hj => ?_), b2⟩
      rw [upd_ne (by omega)]
      have := hsh (43 * (23 - k) + j) (by omega) (by omega)
      rw [show 2000 + (215 + 43 * (23 - 1 - k)) + j = 2215 + (43 * (23 - k) + j - 43) by omega, this, show 2000 + (215 + 43 * (23 - k)) + j = 2215 + (43 * (23 - k) + j) by omega]
    · rw [f2 x x1 x2, upd_ne (by omega), h2 x (by omega)]
  | succ n ih =>
    intro i m1 hi h1 h2
    have c1 : ¬ (nI 989 ≤ nI i) := by rw [nLe (by omega) (by omega)]; omega
    have k := ih (i + 1) (upd m1 (2215 + i) (m1 (2215 + i + 43))) (by omega) (fun j hj => ?_) (fun x hx => ?_)
    · rw [← nI_1] at k
      refine zE_do 60 11 (tbl := tX8_minds) zck_170 rfl (h := ?_)
      refine ⟨fun c => absurd c c1, fun _ => ⟨rfl, _, hw, rfl, _, hw, Or.inl rfl, zwi2 (by omega), rfl, zwi1 (by omega), ?_⟩⟩
      have a1 : 2000 + (nI 215 + nI i).toNatClampNeg = 2215 + i := by rw [zw1 (by omega)]; omega
      have a2 : 2000 + (nI 215 + nI i + nI 43).toNatClampNeg = 2215 + i + 43 := by rw [zw2 (by omega)]; omega
      rw [← a2, ← a1] at k
      exact k
    · by_cases c : j = i
      · subst c; rw [upd_eq, h2 _ (by omega)]
      · rw [upd_ne (by omega)]; exact h1 j (by omega)
    · rw [upd_ne (by omega)]; exact h2 x (by omega)
theorem ok_minds (hd : 1 < d) (hw : lk 1000 = some 2000) (hr : zRw mem 0 g) (wf : zWF g) (A : zMActs mem u gs)
    (q : ∀ mem', zMActs mem' (if u < 24 then u + 1 else 24) (zpsh g gs) → zmfr mem mem' → Q none mem') : zOk X d 170 [.ref 1000] mem lk L lk L Q := by
  obtain ⟨a1, a2, a3⟩ := A
  refine zOk_doc [57] 60 (tbl := tX8_minds) zck_170 rfl (by omega) (h := ?_)
  refine ⟨rfl, fun c => ?_, fun c => ?_⟩
  · have c : ¬ mem (1000 + 1) = nI 24 := c
    rw [show mem (1000 + 1) = nI u from a2, nEq (by omega) (by omega)] at c
    rw [if_pos (by omega)] at q
    exact minds_tail hd hw hr wf (by omega) a2 a3 q
  · have c : mem (1000 + 1) = nI 24 := c
    rw [show mem (1000 + 1) = nI u from a2, nEq (by omega) (by omega)] at c
    subst c
    rw [if_neg (by omega)] at q
    exact minds_loop hd hw hr wf a2 a3 q 989 0 mem (by omega) (fun j hj => by omega) (fun x _ => rfl)
theorem ok_mundo (hd : 1 < d) (hw : lk 1000 = some 2000) (A : zMActs mem u gs) (q0 : u = 0 → Q (some (.int (-(nI 1000002)))) mem)
    (q : u ≠ 0 → ∀ mem', zMActs mem' (u - 1) (fun k => gs (k + 1)) → zRw mem' 0 (gs 0) → (∀ x, x ≠ 1001 → ¬ (2000 ≤ x ∧ x < 2043) → mem' x = mem x) → Q (some (.int (nI (u - 1)))) mem') : zOk X d 171 [.ref 1000] mem lk L lk L Q := by
  obtain ⟨a1, a2, a3⟩ := A
  refine zOk_do 60 (tbl := tX8_undo) zck_171 rfl (by omega) (h := ?_)
  refine ⟨rfl, fun c => ?_, fun c => ?_⟩
  · have c : ¬ mem (1000 + 1) = 0 := c
    rw [show mem (1000 + 1) = nI u from a2, n0 (by omega)] at c
    obtain ⟨b1, b2⟩ := a3 0 (by omega)
    have q := q c
    refine ⟨rfl, rfl, rfl, rfl, ?_⟩
    show zOk X (d - 1) 135 [.ref 1000, .int (nI 215 + nI 43 * upd mem (1000 + 1) (mem (1000 + 1) - nI 1) (1000 + 1)), .int (nI 0)] (upd mem (1000 + 1) (mem (1000 + 1) - nI 1)) lk L lk L _
    rw [upd_eq, show mem (1000 + 1) = nI u from a2, nsub (by omega) (by omega), nmul, nI_add]
    refine ok_copyOf (a := 215 + 43 * (u - 1)) (b := 0) (by omega) (by omega) (by omega) (by omega) hw (fun m1 hc hf => ⟨rfl, rfl, rfl, ?_⟩)
    have e2 : m1 (1000 + 1) = nI (u - 1) := by rw [hf _ (by omega)]; exact upd_eq
    show Q (some (.int (m1 (1000 + 1)))) m1
    rw [e2]
    refine q m1 ⟨by omega, e2, fun k hk => ?_⟩ (b1.cp b2.1 (fun j hj => ?_)) (fun x h1 h2 => by rw [hf x (by omega), upd_ne (by omega)])
    · obtain ⟨c1, c2⟩ := a3 (k + 1) (by omega)
      rw [show u - 1 - 1 - k = u - 1 - (k + 1) by omega]
      refine ⟨c1.same c2.1 (fun j hj => ?_), c2⟩
      rw [hf _ (by omega), upd_ne (by omega)]
    · rw [show u - 1 - 0 = u - 1 by omega, hc j hj, upd_ne (by omega)]
  · have c : mem (1000 + 1) = 0 := c
    rw [show mem (1000 + 1) = nI u from a2, n0 (by omega)] at c
    exact ⟨rfl, rfl, q0 c⟩
end MA
