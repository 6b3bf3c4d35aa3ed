/-! the reference: small methods, and reading a row of w -/
theorem cmp_lt (x z : Int64) : lg_cmp x z < 0 ↔ x.toInt < z.toInt := by
  unfold lg_cmp
  by_cases h : x > z
  · rw [if_pos h]
    rw [gt_iff_lt, Int64.lt_iff_toInt_lt] at h
    constructor
    · intro q; exact absurd q (by decide)
    · intro q; omega
  · rw [if_neg h]
    by_cases h2 : x = z
    · subst h2
      rw [if_pos rfl]
      constructor
      · intro q; exact absurd q (by decide)
      · intro q; omega
    · rw [if_neg h2]
      rw [gt_iff_lt, Int64.lt_iff_toInt_lt] at h
      rw [← Int64.toInt_inj] at h2
      constructor
      · intro _; omega
      · intro _; decide
theorem cmp_gt (x z : Int64) : 0 < lg_cmp x z ↔ z.toInt < x.toInt := by
  unfold lg_cmp
  by_cases h : x > z
  · rw [if_pos h]
    rw [gt_iff_lt, Int64.lt_iff_toInt_lt] at h
    constructor
    · intro _; exact h
    · intro _; decide
  · rw [if_neg h]
    rw [gt_iff_lt, Int64.lt_iff_toInt_lt] at h
    by_cases h2 : x = z
    · subst h2
      rw [if_pos rfl]
      constructor
      · intro q; exact absurd q (by decide)
      · intro q; omega
    · rw [if_neg h2]
      constructor
      · intro q; exact absurd q (by decide)
      · intro q; omega
theorem l_T {n : Nat} (h : n < 2147483648) : (lN n).toInt = (n : Int) := lN_toInt h
theorem il_T (x : Int32) : x.toInt64.toInt = x.toInt := by simp
/-- the reference's objects -/
def zML (lk : zLk) : Prop := lk 1000 = some 2000 ∧ lk 1002 = some 3300 ∧ lk 1006 = some 3420 ∧ lk 1007 = some 3430 ∧ lk 1008 = some 3440 ∧ lk 1009 = some 3760 ∧ lk 1013 = some 3800 ∧ lk 1014 = some 3810 ∧ lk 1015 = some 3820 ∧ lk 1016 = some 3870 ∧ lk 1017 = some 3880
theorem zw1 {r k : Nat} (h : r + k < 1247) : (nI r + nI k).toNatClampNeg = r + k := by rw [nI_add]; exact nC (by omega)
theorem zw2 {r f e : Nat} (h : r + f + e < 1247) : (nI r + nI f + nI e).toNatClampNeg = r + f + e := by rw [nI_add, nI_add]; exact nC (by omega)
theorem zwi1 {X r k : Nat} (h : r + k < 1247) : vp_in (nI r + nI k) (ln X 2000) := by rw [nI_add]; exact vp_in_nI h (by show 1247 < 2 ^ 31; decide)
theorem zwi2 {X r f e : Nat} (h : r + f + e < 1247) : vp_in (nI r + nI f + nI e) (ln X 2000) := by rw [nI_add, nI_add]; exact vp_in_nI h (by show 1247 < 2 ^ 31; decide)
theorem zwi0 {X k : Nat} (h : k < 1247) : vp_in (nI k) (ln X 2000) := vp_in_nI h (by show 1247 < 2 ^ 31; decide)
section MD
variable {X d : Nat} {mem : zMem} {lk : zLk} {L : List Nat} {Q : Option Value → zMem → Prop} {r : Nat} {g : zH}
theorem ok_in {v lo hi : Int64} (hd : 0 < d) (q1 : lo.toInt ≤ v.toInt → v.toInt ≤ hi.toInt → Q (some (.int (nI 1))) mem) (q0 : v.toInt < lo.toInt ∨ hi.toInt < v.toInt → Q (some (.int (nI 0))) mem) : zOk X d 132 [.long v, .long lo, .long hi] mem lk L lk L Q := by
  refine zOk_do 20 (tbl := tX8_in) zck_132 rfl hd (h := ?_)
  refine ⟨fun c => ⟨rfl, rfl, rfl, q0 (Or.inl ((cmp_lt _ _).mp c))⟩, fun c => ⟨fun c2 => ⟨rfl, rfl, rfl, q0 (Or.inr ((cmp_gt _ _).mp c2))⟩, fun c2 => ⟨rfl, rfl, rfl, q1 ?_ ?_⟩⟩⟩
  · exact Int.not_lt.mp (fun z => c ((cmp_lt _ _).mpr z))
  · exact Int.not_lt.mp (fun z => c2 ((cmp_gt _ _).mpr z))
theorem ok_has {b i : Nat} (hd : 0 < d) (hb : b < 64) (hi : i < 6) (q1 : b / 2 ^ i % 2 = 1 → Q (some (.int (nI 1))) mem) (q0 : b / 2 ^ i % 2 = 0 → Q (some (.int (nI 0))) mem) : zOk X d 133 [.int (nI b), .int (nI i)] mem lk L lk L Q := by
  refine zOk_do 20 (tbl := tX8_has) zck_133 rfl hd (h := ?_)
  refine ⟨fun c => ⟨rfl, rfl, rfl, ?_⟩, fun c => ⟨rfl, rfl, rfl, ?_⟩⟩
  · have c : ¬ (nI b >>> (nI i &&& 31)) &&& nI 1 = nI 1 := c
    rw [zsh_t i hi b hb, nEq (by omega) (by omega)] at c
    exact q0 (by omega)
  · have c : (nI b >>> (nI i &&& 31)) &&& nI 1 = nI 1 := c
    rw [zsh_t i hi b hb, nEq (by omega) (by omega)] at c
    exact q1 c
def zon (b : Nat) : Nat → Nat
  | 0 => 0
  | i + 1 => zon b i + b / 2 ^ i % 2
theorem zon_pc : ∀ b, b < 64 → zon b 6 = zpc b := by decide +kernel
theorem ones_loop {b : Nat} (hb : b < 64) (q : Q (some (.int (nI (zon b 6)))) mem) : ∀ n i, i + n = 6 → zE X d 134 4 [.int (nI b), .int (nI (zon b i)), .int (nI i)] [] mem lk L lk L Q := by
  intro n
  induction n with
  | zero =>
    intro i hi
    refine zE_do 30 4 (tbl := tX8_ones) zck_134 rfl (h := ?_)
    refine ⟨fun c => ⟨rfl, rfl, ?_⟩, fun c => ?_⟩
    · rw [show i = 6 by omega]; exact q
    · exfalso
      rw [nLe (by omega) (by omega)] at c
      omega
  | succ n ih =>
    intro i hi
    have k := ih (i + 1) (by omega)
    rw [← nI_1, show zon b (i + 1) = zon b i + b / 2 ^ i % 2 from rfl, ← nI_add, ← zsh_t i (by omega) b hb] at k
    refine zE_do 30 4 (tbl := tX8_ones) zck_134 rfl (h := ?_)
    refine ⟨fun c => ?_, fun c => k⟩
    exfalso
    rw [nLe (by omega) (by omega)] at c
    omega
theorem ok_ones {b : Nat} (hd : 0 < d) (hb : b < 64) (q : Q (some (.int (nI (zpc b)))) mem) : zOk X d 134 [.int (nI b)] mem lk L lk L Q := by
  refine zOk_do 20 (tbl := tX8_ones) zck_134 rfl hd (h := ?_)
  rw [← zon_pc b hb] at q
  exact ones_loop hb q 6 0 (by omega)
theorem ok_misHouse (hd : 0 < d) (hw : lk 1000 = some 2000) (hb : zHB mem 2000 g) (hn : g 0 ≤ 6) (q1 : 0 < g 0 → Q (some (.int (nI 1))) mem) (q0 : g 0 = 0 → Q (some (.int (nI 0))) mem) : zOk X d 138 [.ref 1000] mem lk L lk L Q := by
  refine zOk_do 20 (tbl := tX8_isHouse) zck_138 rfl hd (h := ?_)
  have e0 : mem (2000 + (nI 0).toNatClampNeg) = nI (g 0) := hb.k 0 (by omega)
  refine ⟨rfl, _, hw, Or.inl rfl, zwi0 (by omega), fun c => ⟨rfl, rfl, rfl, ?_⟩, fun c => ⟨rfl, rfl, rfl, ?_⟩⟩
  · have c : mem (2000 + (nI 0).toNatClampNeg) ≤ 0 := c
    rw [e0, show (0 : Int32) = nI 0 from rfl, nLe (by omega) (by omega)] at c
    exact q0 (by omega)
  · have c : ¬ mem (2000 + (nI 0).toNatClampNeg) ≤ 0 := c
    rw [e0, show (0 : Int32) = nI 0 from rfl, nLe (by omega) (by omega)] at c
    exact q1 (by omega)
theorem ok_misDish {x : Int32} (hd : 1 < d) (hw : lk 1000 = some 2000) (hb : zHB mem 2000 g) (hn : g 0 ≤ 6) (q1 : ∀ e, e < g 0 → x = nI e → Q (some (.int (nI 1))) mem) (q0 : (x.toInt < 0 ∨ (g 0 : Int) ≤ x.toInt) → Q (some (.int (nI 0))) mem) : zOk X d 136 [.ref 1000, .int x] mem lk L lk L Q := by
  refine zOk_do 20 (tbl := tX8_isDish) zck_136 rfl (by omega) (h := ?_)
  have e0 : mem (2000 + (nI 0).toNatClampNeg) = nI (g 0) := hb.k 0 (by omega)
  refine ⟨rfl, _, hw, Or.inl rfl, zwi0 (by omega), ?_⟩
  show zOk X (d - 1) 132 [.long x.toInt64, .long (lN 0), .long (mem (2000 + (nI 0).toNatClampNeg) - nI 1).toInt64] mem lk L lk L _
  rw [e0]
  refine ok_in (by omega) (fun c1 c2 => ?_) (fun c => ?_)
  · rw [il_T, l_T (by omega)] at c1
    rw [il_T, il_T, pk_sub_toInt (by omega) (by omega)] at c2
    refine ⟨rfl, rfl, rfl, ?_⟩
    rcases zix x (n := g 0) (by omega) with ⟨j, hj, e⟩ | q
    · exact q1 j hj e
    · omega
  · rw [il_T, l_T (by omega), il_T, pk_sub_toInt (by omega) (by omega)] at c
    exact ⟨rfl, rfl, rfl, q0 (by omega)⟩
theorem ok_misFloor {x : Int32} (hd : 1 < d) (hw : lk 1000 = some 2000) (hb : zHB mem 2000 g) (hn : g 1 ≤ 9) (q1 : ∀ e, e < g 1 → x = nI e → Q (some (.int (nI 1))) mem) (q0 : (x.toInt < 0 ∨ (g 1 : Int) ≤ x.toInt) → Q (some (.int (nI 0))) mem) : zOk X d 137 [.ref 1000, .int x] mem lk L lk L Q := by
  refine zOk_do 20 (tbl := tX8_isFloor) zck_137 rfl (by omega) (h := ?_)
  have e0 : mem (2000 + (nI 1).toNatClampNeg) = nI (g 1) := hb.k 1 (by omega)
  refine ⟨rfl, _, hw, Or.inl rfl, zwi0 (by omega), ?_⟩
  show zOk X (d - 1) 132 [.long x.toInt64, .long (lN 0), .long (mem (2000 + (nI 1).toNatClampNeg) - nI 1).toInt64] mem lk L lk L _
  rw [e0]
  refine ok_in (by omega) (fun c1 c2 => ?_) (fun c => ?_)
  · rw [il_T, l_T (by omega)] at c1
    rw [il_T, il_T, pk_sub_toInt (by omega) (by omega)] at c2
    refine ⟨rfl, rfl, rfl, ?_⟩
    rcases zix x (n := g 1) (by omega) with ⟨j, hj, e⟩ | q
    · exact q1 j hj e
    · omega
  · rw [il_T, l_T (by omega), il_T, pk_sub_toInt (by omega) (by omega)] at c
    exact ⟨rfl, rfl, rfl, q0 (by omega)⟩
theorem ok_misRow {x : Int32} (hd : 1 < d) (q1 : ∀ e, e < 8 → x = nI e → Q (some (.int (nI 1))) mem) (q0 : (x.toInt < 0 ∨ 8 ≤ x.toInt) → Q (some (.int (nI 0))) mem) : zOk X d 139 [.int x] mem lk L lk L Q := by
  refine zOk_do 20 (tbl := tX8_isRow) zck_139 rfl (by omega) (h := ?_)
  refine ok_in (by omega) (fun c1 c2 => ?_) (fun c => ?_)
  · rw [il_T, l_T (by omega)] at c1
    rw [il_T, l_T (by omega)] at c2
    refine ⟨rfl, rfl, rfl, ?_⟩
    rcases zix x (n := 8) (by omega) with ⟨j, hj, e⟩ | q
    · exact q1 j hj e
    · omega
  · rw [il_T, l_T (by omega), l_T (by omega)] at c
    exact ⟨rfl, rfl, rfl, q0 (by omega)⟩
theorem ok_mfinds {n : Nat} (hd : 0 < d) (q : Q (some (.int (-(nI 1000010) - nI n))) (upd mem 1005 (nI n))) : zOk X d 140 [.ref 1000, .int (nI n)] mem lk L lk L Q := by
  refine zOk_do 20 (tbl := tX8_finds) zck_140 rfl hd (h := ?_)
  exact ⟨rfl, rfl, rfl, q⟩
/-- a row is copied -/
theorem copyOf_loop {a b : Nat} (ha : a + 43 ≤ 1247) (hb : b + 43 ≤ 1247) (hab : a + 43 ≤ b ∨ b + 43 ≤ a) (hw : lk 1000 = some 2000) (q : ∀ mem', (∀ k, k < 43 → mem' (2000 + b + k) = mem (2000 + a + k)) → (∀ x, ¬ (2000 + b ≤ x ∧ x < 2000 + b + 43) → mem' x = mem x) → Q none mem') : ∀ n i m1, i + n = 43 → (∀ k, k < i → m1 (2000 + b + k) = mem (2000 + a + k)) → (∀ x, ¬ (2000 + b ≤ x ∧ x < 2000 + b + 43) → m1 x = mem x) → zE X d 135 2 [.ref 1000, .int (nI a), .int (nI b), .int (nI i)] [] m1 lk L lk L Q := by
  intro n
  induction n with
  | zero =>
    intro i m1 hi h1 h2
    refine zE_do 30 2 (tbl := tX8_copyOf) zck_135 rfl (h := ?_)
    refine ⟨fun c => ⟨rfl, rfl, ?_⟩, fun c => ?_⟩
    · rw [show i = 43 by omega] at h1; exact q m1 h1 h2
    · exfalso
      rw [nLe (by omega) (by omega)] at c
      omega
  | succ n ih =>
    intro i m1 hi h1 h2
    refine zE_do 30 2 (tbl := tX8_copyOf) zck_135 rfl (h := ?_)
    refine ⟨fun c => ?_, fun c => ⟨rfl, _, hw, rfl, _, hw, Or.inl rfl, zwi1 (by omega), rfl, zwi1 (by omega), ?_⟩⟩
    · exfalso
      rw [nLe (by omega) (by omega)] at c
      omega
    · have k := ih (i + 1) (upd m1 (2000 + (nI b + nI i).toNatClampNeg) (m1 (2000 + (nI a + nI i).toNatClampNeg))) (by omega) (fun k hk => ?_) (fun x hx => ?_)
      · rw [← nI_1] at k; exact k
      · rw [zw1 (by omega), zw1 (by omega)]
        by_cases e : k = i
        · subst e
          rw [show 2000 + (b + k) = 2000 + b + k by omega, upd_eq, h2 _ (by omega), show 2000 + (a + k) = 2000 + a + k by omega]
        · rw [upd_ne (by omega)]; exact h1 k (by omega)
      · rw [zw1 (by omega), upd_ne (by omega)]; exact h2 x hx
theorem ok_copyOf {a b : Nat} (hd : 0 < d) (ha : a + 43 ≤ 1247) (hb : b + 43 ≤ 1247) (hab : a + 43 ≤ b ∨ b + 43 ≤ a) (hw : lk 1000 = some 2000) (q : ∀ mem', (∀ k, k < 43 → mem' (2000 + b + k) = mem (2000 + a + k)) → (∀ x, ¬ (2000 + b ≤ x ∧ x < 2000 + b + 43) → mem' x = mem x) → Q none mem') : zOk X d 135 [.ref 1000, .int (nI a), .int (nI b)] mem lk L lk L Q := by
  refine zOk_do 20 (tbl := tX8_copyOf) zck_135 rfl hd (h := ?_)
  exact copyOf_loop ha hb hab hw q 43 0 mem (by omega) (fun k hk => by omega) (fun _ _ => rfl)
end MD
