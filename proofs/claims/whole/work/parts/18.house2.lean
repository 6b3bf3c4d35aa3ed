/-! DishLift$House: more -/
/-- what the statics hold -/
def zNK : List Nat := [0, 0, 1, 1, 0, 4]
def zSB : List Nat := [10, 11, 12, 11, 13, 14]
def zMBo : List Nat := [20, 21, 24, 22, 23, 23]
def zSt (mem : zMem) : Prop := (∀ i, i < 6 → mem (4000 + i) = nI i) ∧ (∀ i, i < 6 → mem (4010 + i) = nI (zNK.getD i 0)) ∧ (∀ i, i < 6 → mem (4020 + i) = nI (zSB.getD i 0)) ∧ ∀ i, i < 6 → mem (4030 + i) = nI (zMBo.getD i 0)
/-- nothing but a house's block has changed -/
def zfr (mem mem' : zMem) (b : Nat) : Prop := ∀ x, ¬ (b ≤ x ∧ x < b + 37) → mem' x = mem x
theorem zfr.rf {mem : zMem} {b : Nat} : zfr mem mem b := fun _ _ => rfl
theorem zfr.tr {m1 m2 m3 : zMem} {b : Nat} (h : zfr m1 m2 b) (h' : zfr m2 m3 b) : zfr m1 m3 b := fun x hx => (h' x hx).trans (h x hx)
theorem zfr.up {mem : zMem} {b x : Nat} {v : Int32} (h : b ≤ x) (h2 : x < b + 37) : zfr mem (upd mem x v) b := fun z hz => upd_ne (by omega)
theorem zSt.fr {mem mem' : zMem} {b : Nat} (h : zSt mem) (hf : zfr mem mem' b) (hb : 10000 ≤ b ∨ b + 37 ≤ 4000) : zSt mem' :=
  ⟨fun i hi => by rw [hf _ (by omega)]; exact h.1 i hi, fun i hi => by rw [hf _ (by omega)]; exact h.2.1 i hi, fun i hi => by rw [hf _ (by omega)]; exact h.2.2.1 i hi, fun i hi => by rw [hf _ (by omega)]; exact h.2.2.2 i hi⟩
theorem zup_self {g : zH} {k v : Nat} (h : g k = v) : va_up g k v = g := by
  funext j
  by_cases e : j = k
  · subst e; rw [zup_eq]; exact h.symm
  · rw [zup_ne e]
section HS
variable {X d : Nat} {mem : zMem} {lk : zLk} {L : List Nat} {Q : Option Value → zMem → Prop} {h : Nat} {g : zH}
theorem ok_isKind {k : Nat} (hd : 0 < d) (hk : k < 6) (q : Q (some (.int (nI 1))) mem) : zOk X d 6 [.int (nI k)] mem lk L lk L Q := by
  refine zOk_do 20 (tbl := tX1_isKind) zck_6 rfl hd (h := ?_)
  refine ⟨fun c => absurd c (nge0 (by omega)), fun c => ⟨⟨Nat.le_of_ble_eq_true rfl, Nat.le_of_ble_eq_true rfl⟩, fun c2 => ?_, fun c2 => ⟨rfl, rfl, rfl, q⟩⟩⟩
  exfalso
  have c2 : nI 6 ≤ nI k := c2
  rw [nLe (by omega) (by omega)] at c2
  omega
theorem ok_isOne {k o : Nat} (hd : 1 < d) (hs : zSt mem) (hk : k < 6) (ho : o < 6) (q1 : (o = 0 ∨ k = o ∨ zNK.getD k 0 = o) → Q (some (.int (nI 1))) mem) (q0 : ¬ (o = 0 ∨ k = o ∨ zNK.getD k 0 = o) → Q (some (.int (nI 0))) mem) : zOk X d 7 [.int (nI k), .int (nI o)] mem lk L lk L Q := by
  have hb : zNK.getD k 0 < 6 := by
    rcases (show k = 0 ∨ k = 1 ∨ k = 2 ∨ k = 3 ∨ k = 4 ∨ k = 5 by omega) with rfl | rfl | rfl | rfl | rfl | rfl <;> decide
  refine zOk_do 20 (tbl := tX1_isOne) zck_7 rfl (by omega) (h := ?_)
  refine ⟨fun c => ⟨rfl, rfl, rfl, ?_⟩, fun c => ⟨fun c2 => ⟨rfl, rfl, rfl, ?_⟩, fun c2 => ok_isKind (by omega) hk (zT_eq ⟨Or.inr rfl, vp_in_nI hk (by show 6 < 2 ^ 31; decide), fun c3 => ⟨rfl, rfl, rfl, ?_⟩, fun c3 => ⟨rfl, rfl, rfl, ?_⟩⟩)⟩⟩
  · rw [n0 (by omega)] at c; exact q1 (Or.inl c)
  · rw [nEq (by omega) (by omega)] at c2; exact q1 (Or.inr (Or.inl c2))
  · have c3 : ¬ mem (4010 + (nI k).toNatClampNeg) = nI o := c3
    rw [nC (by omega), hs.2.1 k hk, nEq (by omega) (by omega)] at c3
    rw [n0 (by omega)] at c
    rw [nEq (by omega) (by omega)] at c2
    exact q0 (by omega)
  · have c3 : mem (4010 + (nI k).toNatClampNeg) = nI o := c3
    rw [nC (by omega), hs.2.1 k hk, nEq (by omega) (by omega)] at c3
    exact q1 (Or.inr (Or.inr c3))
/-- good, if served -/
abbrev zgood (k t : Nat) : Prop := if k < 4 then 20 ≤ t else t ≤ 10
theorem zhot {k : Nat} (h1 : 1 ≤ k) (h : k < 6) : ((1 : Nat) = 0 ∨ k = 1 ∨ zNK.getD k 0 = 1) ↔ k < 4 := by
  rcases (show k = 1 ∨ k = 2 ∨ k = 3 ∨ k = 4 ∨ k = 5 by omega) with rfl | rfl | rfl | rfl | rfl <;> decide
theorem ok_isGood {e : Nat} (hd : 2 < d) (hs : zSt mem) (hh : zHo lk h) (hb : zHB mem h g) (wf : zWF g) (he : e < g 0) (q1 : zgood (g (7 + e)) (g (31 + e)) → Q (some (.int (nI 1))) mem) (q0 : ¬ zgood (g (7 + e)) (g (31 + e)) → Q (some (.int (nI 0))) mem) : zOk X d 51 [.ref h, .int (nI e)] mem lk L lk L Q := by
  obtain ⟨w1, -, -, -, w5⟩ := wf.2.2.2.2.2.2.2.2 e he
  have w0 := wf.1
  refine zOk_do 30 (tbl := tX3_isGood) zck_51 rfl (by omega) (h := ?_)
  refine ⟨hh.k3, _, hh.lk 0 (by omega), Or.inl (hh.ka 0 (by omega)), hh.inn (by omega), ?_⟩
  have e1 : mem (h + (7 + 6 * 0) + (nI e).toNatClampNeg) = nI (g (7 + e)) := by rw [nC (by omega)]; exact hb.kind he
  have e2 : mem (h + (7 + 6 * 4) + (nI e).toNatClampNeg) = nI (g (31 + e)) := by rw [nC (by omega)]; exact hb.ht he
  show zOk X (d - 1) 7 [.int (mem (h + (7 + 6 * 0) + (nI e).toNatClampNeg)), .int (nI 1)] mem lk L lk L _
  rw [e1]
  refine ok_isOne (by omega) hs (by omega) (by omega) (fun c => ?_) (fun c => ?_)
  · rw [zhot w1.1 (by omega)] at c
    refine zT_eq ⟨hh.k3, _, hh.lk 4 (by omega), Or.inl (hh.ka 4 (by omega)), hh.inn (by omega), fun c2 => ⟨rfl, rfl, rfl, q0 ?_⟩, fun c2 => ⟨rfl, rfl, rfl, q1 ?_⟩⟩
    · have c2 : mem (h + (7 + 6 * 4) + (nI e).toNatClampNeg) < nI 20 := c2
      rw [e2, nLt (by omega) (by omega)] at c2
      unfold zgood; rw [if_pos c]; omega
    · have c2 : ¬ mem (h + (7 + 6 * 4) + (nI e).toNatClampNeg) < nI 20 := c2
      rw [e2, nLt (by omega) (by omega)] at c2
      unfold zgood; rw [if_pos c]; omega
  · rw [zhot w1.1 (by omega)] at c
    refine zF_eq ⟨hh.k3, _, hh.lk 4 (by omega), Or.inl (hh.ka 4 (by omega)), hh.inn (by omega), fun c2 => ⟨rfl, rfl, rfl, q0 ?_⟩, fun c2 => ⟨rfl, rfl, rfl, q1 ?_⟩⟩
    · have c2 : nI 10 < mem (h + (7 + 6 * 4) + (nI e).toNatClampNeg) := c2
      rw [e2, nLt (by omega) (by omega)] at c2
      unfold zgood; rw [if_neg c]; omega
    · have c2 : ¬ nI 10 < mem (h + (7 + 6 * 4) + (nI e).toNatClampNeg) := c2
      rw [e2, nLt (by omega) (by omega)] at c2
      unfold zgood; rw [if_neg c]; omega
/-- the dishes that are served and good, of the first i -/
def zfine (g : zH) : Nat → Nat
  | 0 => 0
  | i + 1 => if g (13 + i) = 11 ∧ zgood (g (7 + i)) (g (31 + i)) then zfine g i ||| 2 ^ i else zfine g i
theorem zset_lt {c : Prop} [Decidable c] {a i : Nat} (h : a < 2 ^ i) : (if c then a ||| 2 ^ i else a) < 2 ^ (i + 1) := by
  have h1 : 2 ^ i ≤ 2 ^ (i + 1) := Nat.pow_le_pow_right (by omega) (by omega)
  by_cases hc : c
  · rw [if_pos hc]
    exact Nat.or_lt_two_pow (Nat.lt_of_lt_of_le h h1) (Nat.pow_lt_pow_right (by omega) (by omega))
  · rw [if_neg hc]
    exact Nat.lt_of_lt_of_le h h1
theorem zfine_lt (g : zH) : ∀ i, i ≤ 9 → zfine g i < 2 ^ i
  | 0, _ => Nat.zero_lt_one
  | i + 1, h => zset_lt (zfine_lt g i (by omega))
theorem zfine_512 (g : zH) (i : Nat) (h : i ≤ 9) : zfine g i < 512 := Nat.lt_of_lt_of_le (zfine_lt g i h) (show 2 ^ i ≤ 2 ^ 9 from Nat.pow_le_pow_right (by omega) h)
theorem zWF.at11 {g : zH} (w : zWF g) : ∀ e, e < g 0 → g (13 + e) ≤ 11 := fun e he => by
  have := (w.2.2.2.2.2.2.2.2 e he).2.1
  have := w.2.2.1
  omega
theorem servedGood_loop (hd : 3 < d) (hs : zSt mem) (hh : zHo lk h) (hb : zHB mem h g) (wf : zWF g) (q : Q (some (.int (nI (zfine g (g 0))))) mem) : ∀ n i, i + n = g 0 → zE X d 50 4 [.ref h, .int (nI (zfine g i)), .int (nI i)] [] mem lk L lk L Q := by
  have w0 := wf.1
  intro n
  induction n with
  | zero =>
    intro i hi
    refine zE_do 30 4 (tbl := tX3_servedGood) zck_50 rfl (h := ?_)
    refine ⟨hh.k3, fun c => ⟨rfl, rfl, ?_⟩, fun c => ?_⟩
    · rw [show i = g 0 by omega]; exact q
    · exfalso
      have c : ¬ mem (h + 0) ≤ nI i := c
      rw [hb.k 0 (by omega), nLe (by omega) (by omega)] at c
      omega
  | succ n ih =>
    intro i hi
    have w11 := wf.at11 i (by omega)
    have k := ih (i + 1) (by omega)
    rw [← nI_1] at k
    have e1 : mem (h + 13 + (nI i).toNatClampNeg) = nI (g (13 + i)) := by rw [nC (by omega)]; exact hb.at (by omega)
    refine zE_do 30 4 (tbl := tX3_servedGood) zck_50 rfl (h := ?_)
    refine ⟨hh.k3, fun c => ?_, fun c => ⟨hh.k3, _, hh.lk 1 (by omega), Or.inl (hh.ka 1 (by omega)), hh.inn (by omega), fun c2 => ?_, fun c2 => ⟨by rw [hh.k3]; rfl, ok_isGood (by omega) hs hh hb wf (by omega) (fun c3 => zT_eq ?_) (fun c3 => zF_eq ?_)⟩⟩⟩
    · exfalso
      have c : mem (h + 0) ≤ nI i := c
      rw [hb.k 0 (by omega), nLe (by omega) (by omega)] at c
      omega
    · have c2 : ¬ mem (h + 13 + (nI i).toNatClampNeg) = nI 11 := c2
      rw [e1, nEq (by omega) (by omega)] at c2
      rw [show zfine g (i + 1) = zfine g i from if_neg (fun q => c2 q.1)] at k
      exact k
    · have c2 : mem (h + 13 + (nI i).toNatClampNeg) = nI 11 := c2
      rw [e1, nEq (by omega) (by omega)] at c2
      rw [show zfine g (i + 1) = zfine g i ||| 2 ^ i from if_pos ⟨c2, c3⟩, ← zor_t i (by omega) _ (zfine_512 g i (by omega))] at k
      exact k
    · rw [show zfine g (i + 1) = zfine g i from if_neg (fun q => c3 q.2)] at k
      exact k
theorem ok_servedGood (hd : 3 < d) (hs : zSt mem) (hh : zHo lk h) (hb : zHB mem h g) (wf : zWF g) (q : Q (some (.int (nI (zfine g (g 0))))) mem) : zOk X d 50 [.ref h] mem lk L lk L Q := by
  refine zOk_do 20 (tbl := tX3_servedGood) zck_50 rfl (by omega) (h := ?_)
  exact servedGood_loop hd hs hh hb wf q (g 0) 0 (by omega)
/-- the sum of a field over a set, of the first i -/
def zsum (g : zH) (f b : Nat) : Nat → Nat
  | 0 => 0
  | i + 1 => zsum g f b i + b / 2 ^ i % 2 * g (f + i)
theorem zsh_t : ∀ i, i < 6 → ∀ b, b < 64 → (nI b >>> (nI i &&& 31)) &&& nI 1 = nI (b / 2 ^ i % 2) := by decide +kernel
theorem zsum_le (g : zH) (f b : Nat) (M : Nat) : ∀ i, (∀ e, e < i → g (f + e) ≤ M) → zsum g f b i ≤ i * M
  | 0, _ => by simp [zsum]
  | i + 1, h => by
    have ih := zsum_le g f b M i (fun e he => h e (by omega))
    have h1 := h i (by omega)
    have h2 : b / 2 ^ i % 2 * g (f + i) ≤ 1 * M := Nat.mul_le_mul (by omega) h1
    unfold zsum
    rw [Nat.succ_mul]
    omega
theorem weightOf_loop {b : Nat} (hh : zHo lk h) (hb : zHB mem h g) (wf : zWF g) (hbb : b < 64) (q : Q (some (.int (nI (zsum g 25 b (g 0))))) mem) : ∀ n i, i + n = g 0 → zE X d 52 4 [.ref h, .int (nI b), .int (nI (zsum g 25 b i)), .int (nI i)] [] mem lk L lk L Q := by
  have w0 := wf.1
  intro n
  induction n with
  | zero =>
    intro i hi
    refine zE_do 30 4 (tbl := tX3_weightOf) zck_52 rfl (h := ?_)
    refine ⟨hh.k3, fun c => ⟨rfl, rfl, ?_⟩, fun c => ?_⟩
    · rw [show i = g 0 by omega]; exact q
    · exfalso
      have c : ¬ mem (h + 0) ≤ nI i := c
      rw [hb.k 0 (by omega), nLe (by omega) (by omega)] at c
      omega
  | succ n ih =>
    intro i hi
    have k := ih (i + 1) (by omega)
    have e1 : mem (h + (7 + 6 * 3) + (nI i).toNatClampNeg) = nI (g (25 + i)) := by rw [nC (by omega)]; exact hb.wt (by omega)
    rw [← nI_1, show zsum g 25 b (i + 1) = zsum g 25 b i + b / 2 ^ i % 2 * g (25 + i) from rfl, ← nI_add, ← pk_mul, ← zsh_t i (by omega) b hbb, ← e1] at k
    refine zE_do 30 4 (tbl := tX3_weightOf) zck_52 rfl (h := ?_)
    refine ⟨hh.k3, fun c => ?_, fun c => ⟨hh.k3, _, hh.lk 3 (by omega), Or.inl (hh.ka 3 (by omega)), hh.inn (by omega), k⟩⟩
    exfalso
    have c : mem (h + 0) ≤ nI i := c
    rw [hb.k 0 (by omega), nLe (by omega) (by omega)] at c
    omega
theorem ok_weightOf {b : Nat} (hd : 0 < d) (hh : zHo lk h) (hb : zHB mem h g) (wf : zWF g) (hbb : b < 64) (q : Q (some (.int (nI (zsum g 25 b (g 0))))) mem) : zOk X d 52 [.ref h, .int (nI b)] mem lk L lk L Q := by
  refine zOk_do 20 (tbl := tX3_weightOf) zck_52 rfl (by omega) (h := ?_)
  exact weightOf_loop hh hb wf hbb q (g 0) 0 (by omega)
theorem heatOf_loop {b : Nat} (hh : zHo lk h) (hb : zHB mem h g) (wf : zWF g) (hbb : b < 64) (q : Q (some (.int (nI (zsum g 31 b (g 0))))) mem) : ∀ n i, i + n = g 0 → zE X d 53 4 [.ref h, .int (nI b), .int (nI (zsum g 31 b i)), .int (nI i)] [] mem lk L lk L Q := by
  have w0 := wf.1
  intro n
  induction n with
  | zero =>
    intro i hi
    refine zE_do 30 4 (tbl := tX3_heatOf) zck_53 rfl (h := ?_)
    refine ⟨hh.k3, fun c => ⟨rfl, rfl, ?_⟩, fun c => ?_⟩
    · rw [show i = g 0 by omega]; exact q
    · exfalso
      have c : ¬ mem (h + 0) ≤ nI i := c
      rw [hb.k 0 (by omega), nLe (by omega) (by omega)] at c
      omega
  | succ n ih =>
    intro i hi
    have k := ih (i + 1) (by omega)
    have e1 : mem (h + (7 + 6 * 4) + (nI i).toNatClampNeg) = nI (g (31 + i)) := by rw [nC (by omega)]; exact hb.ht (by omega)
    rw [← nI_1, show zsum g 31 b (i + 1) = zsum g 31 b i + b / 2 ^ i % 2 * g (31 + i) from rfl, ← nI_add, ← pk_mul, ← zsh_t i (by omega) b hbb, ← e1] at k
    refine zE_do 30 4 (tbl := tX3_heatOf) zck_53 rfl (h := ?_)
    refine ⟨hh.k3, fun c => ?_, fun c => ⟨hh.k3, _, hh.lk 4 (by omega), Or.inl (hh.ka 4 (by omega)), hh.inn (by omega), k⟩⟩
    exfalso
    have c : mem (h + 0) ≤ nI i := c
    rw [hb.k 0 (by omega), nLe (by omega) (by omega)] at c
    omega
theorem ok_heatOf {b : Nat} (hd : 0 < d) (hh : zHo lk h) (hb : zHB mem h g) (wf : zWF g) (hbb : b < 64) (q : Q (some (.int (nI (zsum g 31 b (g 0))))) mem) : zOk X d 53 [.ref h, .int (nI b)] mem lk L lk L Q := by
  refine zOk_do 20 (tbl := tX3_heatOf) zck_53 rfl (by omega) (h := ?_)
  exact heatOf_loop hh hb wf hbb q (g 0) 0 (by omega)
/-- a dish is sent back -/
def zsend (g : zH) (e t ht : Nat) : zH := va_up (va_up (va_up g (13 + e) (g (19 + e))) (19 + e) t) (31 + e) ht
theorem ok_sendBack {e t ht : Nat} (hd : 0 < d) (hh : zHo lk h) (hb : zHB mem h g) (wf : zWF g) (he : e < g 0) (q : ∀ mem', zHB mem' h (zsend g e t ht) → zfr mem mem' h → Q none mem') : zOk X d 54 [.ref h, .int (nI e), .int (nI t), .int (nI ht)] mem lk L lk L Q := by
  have w0 := wf.1
  refine zOk_do 30 (tbl := tX3_sendBack) zck_54 rfl (by omega) (h := ?_)
  refine ⟨hh.k3, _, hh.lk 1 (by omega), hh.k3, _, hh.lk 2 (by omega), Or.inl (hh.ka 2 (by omega)), hh.inn (by omega), hh.ka 1 (by omega), hh.inn (by omega), hh.k3, _, hh.lk 2 (by omega), hh.ka 2 (by omega), hh.inn (by omega), hh.k3, _, hh.lk 4 (by omega), hh.ka 4 (by omega), hh.inn (by omega), rfl, rfl, ?_⟩
  have e1 : mem (h + (7 + 6 * 2) + (nI e).toNatClampNeg) = nI (g (19 + e)) := by rw [nC (by omega)]; exact hb.to he
  show Q none (upd (upd (upd mem (h + (7 + 6 * 1) + (nI e).toNatClampNeg) (mem (h + (7 + 6 * 2) + (nI e).toNatClampNeg))) (h + (7 + 6 * 2) + (nI e).toNatClampNeg) (nI t)) (h + (7 + 6 * 4) + (nI e).toNatClampNeg) (nI ht))
  rw [e1, nC (by omega)]
  refine q _ (((hb.set (13 + e) (g (19 + e)) (by omega) (by omega)).set (19 + e) t (by omega) (by omega)).set (31 + e) ht (by omega) (by omega)) ?_
  exact ((zfr.up (by omega) (by omega)).tr (zfr.up (by omega) (by omega))).tr (zfr.up (by omega) (by omega))
end HS
