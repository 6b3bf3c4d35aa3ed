/-! how a house is told: in numbers -/
def z0 : zH := fun _ => 0
def zfig (b : Nat → Nat) (n q : Nat) : Bool := decide (q < n ∧ 48 ≤ b q ∧ b q ≤ 57)
/-- how many figures stand from p on, at most 3 -/
def zfgc (b : Nat → Nat) (n p : Nat) : Nat := if zfig b n p = false then 0 else if zfig b n (p + 1) = false then 1 else if zfig b n (p + 2) = false then 2 else 3
def zval (b : Nat → Nat) (p : Nat) : Nat → Nat
  | 0 => 0
  | k + 1 => 10 * zval b p k + b (p + k) - 48
/-- a byte, a number: what is told goes on with k, or a fault and where -/
def zrB (b : Nat → Nat) (n p c : Nat) (k : Nat → Nat × Nat × zH) : Nat × Nat × zH := if p < n ∧ b p = c then k (p + 1) else (1, p, z0)
def zrN (b : Nat → Nat) (n p lo hi : Nat) (k : Nat → Nat → Nat × Nat × zH) : Nat × Nat × zH :=
  if zfgc b n p = 0 ∨ zfgc b n p = 3 then (1, p, z0) else if zval b p (zfgc b n p) < lo ∨ hi < zval b p (zfgc b n p) then (2, p, z0) else k (p + zfgc b n p) (zval b p (zfgc b n p))
def zrX (b : Nat → Nat) (n p lo hi c : Nat) (k : Nat → Nat → Nat × Nat × zH) : Nat × Nat × zH := zrN b n p lo hi (fun p1 v => zrB b n p1 c (fun p2 => k p2 v))
def zpL (b : Nat → Nat) (n : Nat) (k : Nat → zH → Nat × Nat × zH) : Nat × Nat × zH :=
  zrB b n 0 100 (fun p => zrX b n p 2 9 44 (fun p a => zrX b n p 1 4 44 (fun p r => zrX b n p 1 40 59 (fun p w => k p (zbare a r w)))))
def zkno (c : Nat) : Nat := if c = 99 then 4 else if c = 104 then 1 else if c = 105 then 5 else if c = 114 then 3 else if c = 115 then 2 else 0
def zkn (b : Nat → Nat) (n p : Nat) : Nat := if p < n then zkno (b p) else 0
def zadd (g : zH) (d k v1 v2 v3 v4 : Nat) : zH := va_up (va_up (va_up (va_up (va_up (va_up g (7 + d) k) (13 + d) v1) (19 + d) v2) (25 + d) v3) (31 + d) v4) 0 (d + 1)
def zrd (b : Nat → Nat) (n d p : Nat) (g : zH) (k : Nat → zH → Nat × Nat × zH) : Nat × Nat × zH :=
  if zkn b n p = 0 then (1, p, z0) else if 6 ≤ d then (3, p, z0) else
  zrX b n (p + 1) 0 (g 1 - 1) 44 (fun p1 v1 => zrX b n p1 0 (g 1 - 1) 44 (fun p2 v2 => zrX b n p2 1 9 44 (fun p3 v3 => zrX b n p3 0 60 59 (fun p4 v4 => k p4 (zadd g d (zkn b n p) v1 v2 v3 v4)))))
def zpD (b : Nat → Nat) (n : Nat) : Nat → Nat → Nat → zH → Nat × Nat × zH
  | 0, _, p, _ => (9, p, z0)
  | m + 1, d, p, g => zrd b n d p g (fun p' g' => if n ≤ p' then (0, p', g') else zpD b n m (d + 1) p' g')
def zparse (b : Nat → Nat) (n : Nat) : Nat × Nat × zH := zpL b n (fun p g => zpD b n 7 0 p g)
theorem zfig_t {b : Nat → Nat} {n q : Nat} : zfig b n q = true ↔ q < n ∧ 48 ≤ b q ∧ b q ≤ 57 := by unfold zfig; rw [decide_eq_true_eq]
theorem zfig_f {b : Nat → Nat} {n q : Nat} : zfig b n q = false ↔ ¬ (q < n ∧ 48 ≤ b q ∧ b q ≤ 57) := by unfold zfig; rw [decide_eq_false_iff_not]
theorem zfgc_eq {b : Nat → Nat} {n p k : Nat} (hk : k ≤ 3) (h : ∀ j, j < k → zfig b n (p + j) = true) (h2 : k = 3 ∨ zfig b n (p + k) = false) : zfgc b n p = k := by
  unfold zfgc
  have n2 : ∀ q, zfig b n q = true → ¬ zfig b n q = false := fun q h => by rw [h]; decide
  rcases (by omega : k = 0 ∨ k = 1 ∨ k = 2 ∨ k = 3) with z | z | z | z <;> subst z
  · have y : zfig b n (p + 0) = false := h2.resolve_left (by omega)
    exact if_pos y
  · have y : zfig b n (p + 1) = false := h2.resolve_left (by omega)
    rw [if_neg (n2 p (h 0 (by omega))), if_pos y]
  · have y : zfig b n (p + 2) = false := h2.resolve_left (by omega)
    rw [if_neg (n2 p (h 0 (by omega))), if_neg (n2 _ (h 1 (by omega))), if_pos y]
  · rw [if_neg (n2 p (h 0 (by omega))), if_neg (n2 _ (h 1 (by omega))), if_neg (n2 _ (h 2 (by omega)))]
theorem zval_lt {b : Nat → Nat} {n p : Nat} : ∀ k, (∀ j, j < k → zfig b n (p + j) = true) → zval b p k < 10 ^ k
  | 0, _ => by show 0 < 1; omega
  | k + 1, h => by
    have ih := zval_lt k (fun j hj => h j (by omega))
    have := zfig_t.mp (h k (by omega))
    show 10 * zval b p k + b (p + k) - 48 < 10 ^ (k + 1)
    rw [Nat.pow_succ]
    omega
theorem zfgc_le (b : Nat → Nat) (n p : Nat) : zfgc b n p ≤ 3 := by
  unfold zfgc
  split
  · omega
  · split
    · omega
    · split <;> omega
theorem zfgc_fig {b : Nat → Nat} {n p : Nat} : ∀ j, j < zfgc b n p → zfig b n (p + j) = true := by
  unfold zfgc
  intro j hj
  split at hj
  · omega
  · rename_i h0
    split at hj
    · rw [show j = 0 by omega]; simpa using h0
    · rename_i h1
      split at hj
      · rcases (by omega : j = 0 ∨ j = 1) with z | z <;> subst z
        · simpa using h0
        · simpa using h1
      · rename_i h2
        rcases (by omega : j = 0 ∨ j = 1 ∨ j = 2) with z | z | z <;> subst z
        · simpa using h0
        · simpa using h1
        · simpa using h2
theorem zfgc_n {b : Nat → Nat} {n p : Nat} (hp : p ≤ n) : p + zfgc b n p ≤ n := by
  by_cases z : zfgc b n p = 0
  · omega
  · have := (zfig_t.mp (zfgc_fig (b := b) (n := n) (p := p) (zfgc b n p - 1) (by omega))).1
    omega
/-! the tape of the class -/
def zTp (mem : zMem) (b : Nat → Nat) (n p : Nat) : Prop := mem 531 = nI n ∧ mem 532 = nI p ∧ ∀ i, i < n → mem (540 + i) = nI (b i)
def zby (b : Nat → Nat) (n : Nat) : Prop := n ≤ 110 ∧ ∀ i, i < n → b i ≤ 255
def zpfr (mem mem' : zMem) : Prop := ∀ x, x ≠ 532 → x ≠ 533 → x ≠ 534 → mem' x = mem x
theorem zpfr.rf {mem : zMem} : zpfr mem mem := fun _ _ _ _ => rfl
theorem zpfr.tr {m1 m2 m3 : zMem} (h : zpfr m1 m2) (h' : zpfr m2 m3) : zpfr m1 m3 := fun x a b c => (h' x a b c).trans (h x a b c)
theorem zTp.fr {mem mem' : zMem} {b : Nat → Nat} {n p p' : Nat} (h : zTp mem b n p) (hn : n ≤ 110) (h5 : mem' 532 = nI p') (hf : zpfr mem mem') : zTp mem' b n p' :=
  ⟨by rw [hf _ (by omega) (by omega) (by omega)]; exact h.1, h5, fun i hi => by rw [hf _ (by omega) (by omega) (by omega)]; exact h.2.2 i hi⟩
section TP
variable {X d : Nat} {mem : zMem} {lk : zLk} {L : List Nat} {Q : Option Value → zMem → Prop} {b : Nat → Nat} {n p : Nat}
theorem in110 {X s : Nat} (h : s < 110) : vp_in (nI s) (ln X 540) := vp_in_nI h (by show 110 < 2 ^ 31; decide)
theorem ok_fails {f : Nat} (hd : 0 < d) (q : Q (some (.int (nI 0))) (upd mem 533 (nI f))) : zOk X d 89 [.ref 530, .int (nI f)] mem lk L lk L Q := by
  refine zOk_do 20 (tbl := tX6_fails) zck_89 rfl (by omega) (h := ?_)
  exact ⟨rfl, rfl, rfl, rfl, q⟩
theorem ok_readByte {c : Nat} (hd : 1 < d) (hk : zKs lk) (T : zTp mem b n p) (B : zby b n) (hp : p ≤ n) (hc : c ≤ 255)
    (q1 : p < n → b p = c → ∀ mem', mem' 532 = nI (p + 1) → mem' 533 = mem 533 → mem' 534 = mem 534 → zpfr mem mem' → Q (some (.int (nI 1))) mem')
    (q0 : ¬ (p < n ∧ b p = c) → ∀ mem', mem' 532 = nI p → mem' 533 = nI 1 → mem' 534 = mem 534 → zpfr mem mem' → Q (some (.int (nI 0))) mem') : zOk X d 88 [.ref 530, .int (nI c)] mem lk L lk L Q := by
  obtain ⟨t1, t2, t3⟩ := T
  obtain ⟨b1, b2⟩ := B
  have t1' : mem (530 + 1) = nI n := t1
  have t2' : mem (530 + 2) = nI p := t2
  have k0 : ¬ (p < n ∧ b p = c) → Q (some (.int (nI 0))) (upd mem 533 (nI 1)) := fun z => q0 z _ (by rw [upd_ne (by omega)]; exact t2) upd_eq (upd_ne (by omega)) (fun x _ h _ => upd_ne h)
  refine zOk_do 40 (tbl := tX6_readByte) zck_88 rfl (by omega) (h := ?_)
  refine ⟨rfl, rfl, fun c1 => ⟨rfl, ok_fails (by omega) ⟨rfl, rfl, rfl, k0 ?_⟩⟩, fun c1 => ⟨rfl, _, hk.at 530 540, rfl, ?_⟩⟩
  · have c1 : mem (530 + 1) ≤ mem (530 + 2) := c1
    rw [t1', t2', nLe (by omega) (by omega)] at c1
    omega
  · have c1 : ¬ mem (530 + 1) ≤ mem (530 + 2) := c1
    rw [t1', t2', nLe (by omega) (by omega)] at c1
    have hb := b2 p (by omega)
    have e1 : mem (540 + (mem (530 + 2)).toNatClampNeg) = nI (b p) := by rw [t2', nC (by omega)]; exact t3 p (by omega)
    refine ⟨Or.inl rfl, by rw [t2']; exact in110 (by omega), fun c2 => ⟨rfl, rfl, rfl, rfl, rfl, ?_⟩, fun c2 => ⟨rfl, ok_fails (by omega) ⟨rfl, rfl, rfl, k0 ?_⟩⟩⟩
    · have c2 : mem (540 + (mem (530 + 2)).toNatClampNeg) = nI c := c2
      rw [e1, nEq (by omega) (by omega)] at c2
      refine q1 (by omega) c2 _ ?_ (upd_ne (by omega)) (upd_ne (by omega)) (fun x h _ _ => upd_ne h)
      show upd mem 532 (mem (530 + 2) + nI 1) 532 = _
      rw [upd_eq, t2', nI_add]
    · have c2 : ¬ mem (540 + (mem (530 + 2)).toNatClampNeg) = nI c := c2
      rw [e1, nEq (by omega) (by omega)] at c2
      exact fun z => c2 z.2
theorem ok_isFigure {x : Nat} (hd : 0 < d) (hx : x ≤ 255) (q1 : 48 ≤ x ∧ x ≤ 57 → Q (some (.int (nI 1))) mem) (q0 : ¬ (48 ≤ x ∧ x ≤ 57) → Q (some (.int (nI 0))) mem) : zOk X d 87 [.int (nI x)] mem lk L lk L Q := by
  refine zOk_do 40 (tbl := tX6_isFigure) zck_87 rfl (by omega) (h := ?_)
  refine ⟨fun c => ⟨rfl, rfl, rfl, q0 ?_⟩, fun c => ⟨fun c2 => ⟨rfl, rfl, rfl, q0 ?_⟩, fun c2 => ⟨rfl, rfl, rfl, q1 ?_⟩⟩⟩
  · have c : nI x < nI 48 := c
    rw [nLt (by omega) (by omega)] at c
    omega
  · have c2 : nI 57 < nI x := c2
    rw [nLt (by omega) (by omega)] at c2
    omega
  · have c : ¬ nI x < nI 48 := c
    have c2 : ¬ nI 57 < nI x := c2
    rw [nLt (by omega) (by omega)] at c c2
    omega
theorem ok_isFigure' {x : Nat} {y : Int32} (ey : y = nI x) (hd : 0 < d) (hx : x ≤ 255) (q1 : 48 ≤ x ∧ x ≤ 57 → Q (some (.int (nI 1))) mem) (q0 : ¬ (48 ≤ x ∧ x ≤ 57) → Q (some (.int (nI 0))) mem) : zOk X d 87 [.int y] mem lk L lk L Q := by
  subst ey
  exact ok_isFigure hd hx q1 q0
theorem rnum_fin {lo hi c : Nat} (hlo : lo ≤ 1000) (hhi : hi ≤ 1000) (hc : c ≤ 255) (hd : 2 < d) (hk : zKs lk) (T : zTp mem b n p) (B : zby b n) (hp : p ≤ n)
    (qF : ∀ f p', f ≠ 0 → (∀ k, zrX b n p lo hi c k = (f, p', z0)) → ∀ mem', mem' 532 = nI p' → mem' 533 = nI f → zpfr mem mem' → Q (some (.int (nI 0))) mem')
    (qT : ∀ p' v, (∀ k, zrX b n p lo hi c k = k p' v) → lo ≤ v → v ≤ hi → p' ≤ n → ∀ mem', mem' 532 = nI p' → mem' 533 = mem 533 → mem' 534 = nI v → zpfr mem mem' → Q (some (.int (nI 1))) mem') : zE X d 86 73 [.ref 530, .int (nI lo), .int (nI hi), .int (nI c), .int (nI (zfgc b n p)), .int (nI (zval b p (zfgc b n p)))] [] mem lk L lk L Q := by
  have hf3 := zfgc_le b n p
  have hvl : zval b p (zfgc b n p) < 1000 := Nat.lt_of_lt_of_le (zval_lt _ zfgc_fig) (show 10 ^ zfgc b n p ≤ 10 ^ 3 from Nat.pow_le_pow_right (by omega) hf3)
  have hpn := zfgc_n (b := b) hp
  obtain ⟨t1, t2, t3⟩ := id T
  have b1 := B.1
  have t2' : mem (530 + 2) = nI p := t2
  have f1 : (zfgc b n p = 0 ∨ zfgc b n p = 3) → Q (some (.int (nI 0))) (upd mem 533 (nI 1)) := fun z => qF 1 p (by omega) (fun k => by unfold zrX zrN; rw [if_pos z]) _ (by rw [upd_ne (by omega)]; exact t2) upd_eq (fun x _ h _ => upd_ne h)
  have f2 : ¬ (zfgc b n p = 0 ∨ zfgc b n p = 3) → (zval b p (zfgc b n p) < lo ∨ hi < zval b p (zfgc b n p)) → Q (some (.int (nI 0))) (upd mem 533 (nI 2)) := fun z y => qF 2 p (by omega) (fun k => by unfold zrX zrN; rw [if_neg z, if_pos y]) _ (by rw [upd_ne (by omega)]; exact t2) upd_eq (fun x _ h _ => upd_ne h)
  refine zE_do 60 73 (tbl := tX6_readNumber) zck_86 rfl (h := ?_)
  refine ⟨fun c1 => ⟨rfl, ok_fails (by omega) ⟨rfl, rfl, rfl, f1 ?_⟩⟩, fun c1 => ⟨fun c2 => ⟨fun c3 => ⟨rfl, ok_fails (by omega) ⟨rfl, rfl, rfl, f2 ?_ ?_⟩⟩, fun c3 => ⟨fun c4 => ⟨rfl, rfl, rfl, rfl, ?_⟩, fun c4 => ⟨rfl, ok_fails (by omega) ⟨rfl, rfl, rfl, f2 ?_ ?_⟩⟩⟩⟩, fun c2 => ⟨rfl, ok_fails (by omega) ⟨rfl, rfl, rfl, f1 ?_⟩⟩⟩⟩
  · have c1 : nI (zfgc b n p) = 0 := c1
    rw [n0 (by omega)] at c1
    exact Or.inl c1
  · have c1 : ¬ nI (zfgc b n p) = 0 := c1
    have c2 : nI (zfgc b n p) ≤ nI 2 := c2
    rw [n0 (by omega)] at c1
    rw [nLe (by omega) (by omega)] at c2
    omega
  · have c3 : nI (zval b p (zfgc b n p)) < nI lo := c3
    rw [nLt (by omega) (by omega)] at c3
    exact Or.inl c3
  · have c1 : ¬ nI (zfgc b n p) = 0 := c1
    have c2 : nI (zfgc b n p) ≤ nI 2 := c2
    have c3 : ¬ nI (zval b p (zfgc b n p)) < nI lo := c3
    have c4 : nI (zval b p (zfgc b n p)) ≤ nI hi := c4
    rw [n0 (by omega)] at c1
    rw [nLe (by omega) (by omega)] at c2 c4
    rw [nLt (by omega) (by omega)] at c3
    have g1 : zpfr mem (upd (upd mem (530 + 4) (nI (zval b p (zfgc b n p)))) (530 + 2) (upd mem (530 + 4) (nI (zval b p (zfgc b n p))) (530 + 2) + nI (zfgc b n p))) := fun x h1 h2 h3 => by rw [upd_ne h1, upd_ne h3]
    have g2 : upd (upd mem (530 + 4) (nI (zval b p (zfgc b n p)))) (530 + 2) (upd mem (530 + 4) (nI (zval b p (zfgc b n p))) (530 + 2) + nI (zfgc b n p)) 532 = nI (p + zfgc b n p) := by
      show upd _ 532 _ 532 = _
      rw [upd_eq, upd_ne (by omega), t2', nI_add]
    have g3 : upd (upd mem (530 + 4) (nI (zval b p (zfgc b n p)))) (530 + 2) (upd mem (530 + 4) (nI (zval b p (zfgc b n p))) (530 + 2) + nI (zfgc b n p)) 534 = nI (zval b p (zfgc b n p)) := by
      rw [upd_ne (by omega)]; exact upd_eq
    have g4 : upd (upd mem (530 + 4) (nI (zval b p (zfgc b n p)))) (530 + 2) (upd mem (530 + 4) (nI (zval b p (zfgc b n p))) (530 + 2) + nI (zfgc b n p)) 533 = mem 533 := by
      rw [upd_ne (by omega), upd_ne (by omega)]
    have hX : ∀ k, zrX b n p lo hi c k = zrB b n (p + zfgc b n p) c (fun p2 => k p2 (zval b p (zfgc b n p))) := fun k => by unfold zrX zrN; rw [if_neg (by omega), if_neg (by omega)]
    refine ok_readByte (by omega) hk (T.fr b1 g2 g1) B hpn hc (fun h1 h2 m2 a1 a2 a3 a4 => ⟨rfl, rfl, rfl, ?_⟩) (fun h1 m2 a1 a2 a3 a4 => ⟨rfl, rfl, rfl, ?_⟩)
    · exact qT (p + zfgc b n p + 1) _ (fun k => by rw [hX, zrB, if_pos ⟨h1, h2⟩]) (by omega) (by omega) (by omega) m2 a1 (a2.trans g4) (a3.trans g3) (g1.tr a4)
    · exact qF 1 (p + zfgc b n p) (by omega) (fun k => by rw [hX, zrB, if_neg h1]) m2 a1 a2 (g1.tr a4)
  · have c1 : ¬ nI (zfgc b n p) = 0 := c1
    have c2 : nI (zfgc b n p) ≤ nI 2 := c2
    rw [n0 (by omega)] at c1
    rw [nLe (by omega) (by omega)] at c2
    omega
  · have c4 : ¬ nI (zval b p (zfgc b n p)) ≤ nI hi := c4
    rw [nLe (by omega) (by omega)] at c4
    omega
  · have c2 : ¬ nI (zfgc b n p) ≤ nI 2 := c2
    rw [nLe (by omega) (by omega)] at c2
    omega
theorem rnum_loop {lo hi c : Nat} (hd : 2 < d) (hk : zKs lk) (T : zTp mem b n p) (B : zby b n) (hp : p ≤ n)
    (fin : zE X d 86 73 [.ref 530, .int (nI lo), .int (nI hi), .int (nI c), .int (nI (zfgc b n p)), .int (nI (zval b p (zfgc b n p)))] [] mem lk L lk L Q) : ∀ m k, k + m = 3 → (∀ j, j < k → zfig b n (p + j) = true) → zE X d 86 6 [.ref 530, .int (nI lo), .int (nI hi), .int (nI c), .int (nI k), .int (nI (zval b p k))] [] mem lk L lk L Q := by
  obtain ⟨t1, t2, t3⟩ := T
  obtain ⟨b1, b2⟩ := B
  have t1' : mem (530 + 1) = nI n := t1
  have t2' : mem (530 + 2) = nI p := t2
  intro m
  induction m with
  | zero =>
    intro k hk3 hf
    have e := zfgc_eq (by omega) hf (Or.inl (by omega))
    rw [e] at fin
    have c2 : nI 2 < nI k := by rw [nLt (by omega) (by omega)]; omega
    refine zgoc [73] 60 6 (tbl := tX6_readNumber) zck_86 rfl (h := ?_)
    exact ⟨rfl, rfl, fun _ => fin, fun _ => ⟨fun _ => fin, fun c => absurd c2 c⟩⟩
  | succ m ih =>
    intro k hk3 hf
    have c2 : ¬ nI 2 < nI k := by rw [nLt (by omega) (by omega)]; omega
    have hvl := zval_lt k hf
    have h3 : 10 ^ k ≤ 10 ^ 3 := Nat.pow_le_pow_right (by omega) (by omega)
    have out : zfig b n (p + k) = false → zE X d 86 73 [.ref 530, .int (nI lo), .int (nI hi), .int (nI c), .int (nI k), .int (nI (zval b p k))] [] mem lk L lk L Q := fun z => by
      have e := zfgc_eq (by omega) hf (Or.inr z)
      rw [e] at fin
      exact fin
    refine zgoc [73] 60 6 (tbl := tX6_readNumber) zck_86 rfl (h := ?_)
    refine ⟨rfl, rfl, fun c1 => out ?_, fun c1 => ⟨fun c => absurd c c2, fun _ => ⟨rfl, _, hk.at 530 540, rfl, ?_⟩⟩⟩
    · have c1 : mem (530 + 1) ≤ mem (530 + 2) + nI k := c1
      rw [t1', t2', nI_add, nLe (by omega) (by omega)] at c1
      exact zfig_f.mpr (fun z => by omega)
    · have c1 : ¬ mem (530 + 1) ≤ mem (530 + 2) + nI k := c1
      rw [t1', t2', nI_add, nLe (by omega) (by omega)] at c1
      have hb := b2 (p + k) (by omega)
      have e1 : mem (540 + (mem (530 + 2) + nI k).toNatClampNeg) = nI (b (p + k)) := by rw [t2', nI_add, nC (by omega)]; exact t3 (p + k) (by omega)
      have hin : vp_in (mem (530 + 2) + nI k) (ln X 540) := by rw [t2', nI_add]; exact in110 (by omega)
      refine ⟨Or.inl rfl, hin, ok_isFigure' e1 (by omega) hb (fun h1 => zT_eq ⟨rfl, _, hk.at 530 540, rfl, Or.inl rfl, hin, ?_⟩) (fun h1 => zF_eq (out (zfig_f.mpr (fun z => h1 z.2))))⟩
      have kk := ih (k + 1) (by omega) (fun j hj => by
        by_cases z : j = k
        · subst z; exact zfig_t.mpr ⟨by omega, h1⟩
        · exact hf j (by omega))
      rw [show nI (k + 1) = nI k + nI 1 from (nI_add k 1).symm, show nI (zval b p (k + 1)) = nI 10 * nI (zval b p k) + nI (b (p + k)) - nI 48 by rw [nmul, nI_add, pk_sub (by omega)]; rfl, ← e1] at kk
      exact kk
theorem ok_readNumber {lo hi c : Nat} {y : Int32} (ey : y = nI hi) (hlo : lo ≤ 1000) (hhi : hi ≤ 1000) (hc : c ≤ 255) (hd : 2 < d) (hk : zKs lk) (T : zTp mem b n p) (B : zby b n) (hp : p ≤ n)
    (qF : ∀ f p', f ≠ 0 → (∀ k, zrX b n p lo hi c k = (f, p', z0)) → ∀ mem', mem' 532 = nI p' → mem' 533 = nI f → zpfr mem mem' → Q (some (.int (nI 0))) mem')
    (qT : ∀ p' v, (∀ k, zrX b n p lo hi c k = k p' v) → lo ≤ v → v ≤ hi → p' ≤ n → ∀ mem', mem' 532 = nI p' → mem' 533 = mem 533 → mem' 534 = nI v → zpfr mem mem' → Q (some (.int (nI 1))) mem') : zOk X d 86 [.ref 530, .int (nI lo), .int y, .int (nI c)] mem lk L lk L Q := by
  subst ey
  refine zOk_do 20 (tbl := tX6_readNumber) zck_86 rfl (by omega) (h := ?_)
  exact rnum_loop hd hk T B hp (rnum_fin hlo hhi hc hd hk T B hp qF qT) 3 0 (by omega) (fun j hj => by omega)
theorem ok_kindOf {x : Nat} {y : Int32} (ey : y = nI x) (hd : 0 < d) (hx : x ≤ 255) (q : Q (some (.int (nI (zkno x)))) mem) : zOk X d 85 [.int y] mem lk L lk L Q := by
  subst ey
  have nx : ∀ j, j ≤ 255 → (nI x = nI j ↔ x = j) := fun j hj => nEq (by omega) (by omega)
  unfold zkno at q
  refine zOk_do 40 (tbl := tX6_kindOf) zck_85 rfl (by omega) (h := ?_)
  refine ⟨fun c => ⟨rfl, rfl, ?_⟩, fun c1 => ⟨fun c => ⟨rfl, rfl, ?_⟩, fun c2 => ⟨fun c => ⟨rfl, rfl, ?_⟩, fun c3 => ⟨fun c => ⟨rfl, rfl, ?_⟩, fun c4 => ⟨fun c => ⟨rfl, rfl, ?_⟩, fun c5 => ⟨rfl, rfl, ?_⟩⟩⟩⟩⟩⟩
  · rw [if_pos ((nx 99 (by omega)).mp c)] at q; exact q
  · rw [if_neg (fun z => c1 ((nx 99 (by omega)).mpr z)), if_pos ((nx 104 (by omega)).mp c)] at q; exact q
  · rw [if_neg (fun z => c1 ((nx 99 (by omega)).mpr z)), if_neg (fun z => c2 ((nx 104 (by omega)).mpr z)), if_pos ((nx 105 (by omega)).mp c)] at q; exact q
  · rw [if_neg (fun z => c1 ((nx 99 (by omega)).mpr z)), if_neg (fun z => c2 ((nx 104 (by omega)).mpr z)), if_neg (fun z => c3 ((nx 105 (by omega)).mpr z)), if_pos ((nx 114 (by omega)).mp c)] at q; exact q
  · rw [if_neg (fun z => c1 ((nx 99 (by omega)).mpr z)), if_neg (fun z => c2 ((nx 104 (by omega)).mpr z)), if_neg (fun z => c3 ((nx 105 (by omega)).mpr z)), if_neg (fun z => c4 ((nx 114 (by omega)).mpr z)), if_pos ((nx 115 (by omega)).mp c)] at q; exact q
  · rw [if_neg (fun z => c1 ((nx 99 (by omega)).mpr z)), if_neg (fun z => c2 ((nx 104 (by omega)).mpr z)), if_neg (fun z => c3 ((nx 105 (by omega)).mpr z)), if_neg (fun z => c4 ((nx 114 (by omega)).mpr z)), if_neg (fun z => c5 ((nx 115 (by omega)).mpr z))] at q; exact q
end TP
