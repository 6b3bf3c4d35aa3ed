/-! DishLift$Rows -/
def zKl : List (Nat × Nat) := [(100, 120), (101, 530), (102, 10000), (103, 10064), (104, 660), (105, 700), (106, 710), (107, 740), (108, 770), (120, 130), (121, 140), (122, 150), (530, 540), (660, 670), (710, 10128), (711, 720), (740, 10192), (741, 10256), (742, 750), (743, 760), (770, 780)]
/-- the links of the class that never change -/
def zKs (lk : zLk) : Prop := (∀ p, p ∈ zKl → lk p.1 = some p.2) ∧ ∀ k, k < 8 → lk (150 + k) = some (200 + 40 * k)
theorem zKs.at {lk : zLk} (h : zKs lk) (a b : Nat) (hm : (a, b) ∈ zKl := by decide) : lk a = some b := h.1 (a, b) hm
theorem kd_item {k : Nat} (h : k < 8) : kd (200 + 40 * k) = 9 := by
  rcases (by omega : k = 0 ∨ k = 1 ∨ k = 2 ∨ k = 3 ∨ k = 4 ∨ k = 5 ∨ k = 6 ∨ k = 7) with z | z | z | z | z | z | z | z <;> subst z <;> rfl
theorem ln_item {X k : Nat} (h : k < 8) : ln X (200 + 40 * k) = 40 := by
  rcases (by omega : k = 0 ∨ k = 1 ∨ k = 2 ∨ k = 3 ∨ k = 4 ∨ k = 5 ∨ k = 6 ∨ k = 7) with z | z | z | z | z | z | z | z <;> subst z <;> rfl
/-- the rows: 99 is missing -/
def zCR (mem : zMem) (rl rn : Nat → Nat) (ri : Nat → Int32) : Prop :=
  (∀ k, k < 8 → (rl k = 99 → mem (130 + k) = -(nI 1)) ∧ (rl k ≠ 99 → mem (130 + k) = nI (rl k) ∧ mem (140 + k) = nI (rn k))) ∧ ∀ i, i < 320 → mem (200 + i) = ri i
/-- what is true of rows -/
def zRowOk (rl rn : Nat → Nat) : Prop := ∀ k, k < 8 → rl k ≠ 99 → rl k ≤ 2 ∧ rn k ≤ 40
theorem nsubT {a b : Nat} (ha : a < 2147483648) (hb : b < 2147483648) : (nI a - nI b).toInt = (a : Int) - b := by
  rw [Int32.toInt_sub, nT ha, nT hb]
  exact Int.bmod_eq_of_le (by omega) (by omega)
section RW
variable {X d : Nat} {mem : zMem} {lk : zLk} {L : List Nat} {Q : Option Value → zMem → Prop} {rl rn : Nat → Nat} {ri : Nat → Int32}
theorem in8 {X s : Nat} (o : Nat) (ho : ln X o = 8) (h : s < 8) : vp_in (nI s) (ln X o) := by rw [ho]; exact vp_in_nI h (by decide)
theorem fill_loop {o n : Nat} {v : Int32} (hk : kd o = 9) (hl : ln X o = n) (hn : n < 2147483648) (q : ∀ mem', (∀ i, i < n → mem' (o + i) = v) → (∀ x, ¬ (o ≤ x ∧ x < o + n) → mem' x = mem x) → Q none mem') : ∀ m i m1, i + m = n → (∀ j, j < i → m1 (o + j) = v) → (∀ x, ¬ (o ≤ x ∧ x < o + n) → m1 x = mem x) → zE X d 224 5 [.ref o, .int v, .int (nI i), .int (nI n)] [] m1 lk L lk L Q := by
  intro m
  induction m with
  | zero =>
    intro i m1 hi h1 h2
    have c1 : nI n ≤ nI i := by rw [nLe (by omega) (by omega)]; omega
    refine zE_do 40 5 (tbl := tJ7_fill_53178) zck_224 rfl (h := ?_)
    exact ⟨fun _ => ⟨rfl, rfl, q m1 (fun j hj => h1 j (by omega)) h2⟩, fun c => absurd c1 c⟩
  | succ m ih =>
    intro i m1 hi h1 h2
    have c1 : ¬ nI n ≤ nI i := by rw [nLe (by omega) (by omega)]; omega
    have k := ih (i + 1) (upd m1 (o + i) v) (by omega) (fun j hj => ?_) (fun x hx => ?_)
    · rw [← nI_1] at k
      refine zE_do 40 5 (tbl := tJ7_fill_53178) zck_224 rfl (h := ?_)
      refine ⟨fun c => absurd c c1, fun _ => ⟨hk, by rw [hl]; exact vp_in_nI (by omega) (by omega), ?_⟩⟩
      have a1 : (nI i).toNatClampNeg = i := nC (by omega)
      rw [← a1] at k
      rw [a1] at k ⊢
      exact k
    · by_cases c : j = i
      · subst c; exact upd_eq
      · rw [upd_ne (by omega)]; exact h1 j (by omega)
    · rw [upd_ne (by omega)]; exact h2 x hx
theorem ok_fill {o n : Nat} {v : Int32} (hd : 0 < d) (hk : kd o = 9) (hl : ln X o = n) (hn : n < 2147483648) (q : ∀ mem', (∀ i, i < n → mem' (o + i) = v) → (∀ x, ¬ (o ≤ x ∧ x < o + n) → mem' x = mem x) → Q none mem') : zOk X d 224 [.ref o, .int v] mem lk L lk L Q := by
  refine zOk_do 20 (tbl := tJ7_fill_53178) zck_224 rfl hd (h := ?_)
  refine ⟨by rw [hk]; decide, ?_⟩
  rw [hl]
  exact fill_loop hk hl hn q n 0 mem (by omega) (fun j hj => by omega) (fun x _ => rfl)
theorem ok_isRow {x : Int32} (hd : 0 < d) (q1 : ∀ e, e < 8 → x = nI e → Q (some (.int (nI 1))) mem) (q0 : (x.toInt < 0 ∨ 8 ≤ x.toInt) → Q (some (.int (nI 0))) mem) : zOk X d 70 [.int x] mem lk L lk L Q := by
  have n8 : (nI 8).toInt = 8 := nT (by omega)
  refine zOk_do 20 (tbl := tX5_isRow) zck_70 rfl hd (h := ?_)
  refine ⟨fun c => ⟨rfl, rfl, rfl, q0 ?_⟩, fun c => ⟨fun c2 => ⟨rfl, rfl, rfl, q0 ?_⟩, fun c2 => ⟨rfl, rfl, rfl, ?_⟩⟩⟩
  · have c : x < 0 := c
    rw [i_lt, i_0] at c; exact Or.inl c
  · have c2 : nI 8 ≤ x := c2
    rw [i_le, n8] at c2; exact Or.inr c2
  · have c : ¬ x < 0 := c
    have c2 : ¬ nI 8 ≤ x := c2
    rw [i_lt, i_0] at c
    rw [i_le, n8] at c2
    rcases zix x (n := 8) (by omega) with ⟨j, hj, e⟩ | q
    · exact q1 j hj e
    · omega
theorem ok_isLane {x : Int32} (hd : 0 < d) (q1 : ∀ e, e ≤ 2 → x = nI e → Q (some (.int (nI 1))) mem) (q0 : (x.toInt < 0 ∨ 2 < x.toInt) → Q (some (.int (nI 0))) mem) : zOk X d 71 [.int x] mem lk L lk L Q := by
  have n2 : (nI 2).toInt = 2 := nT (by omega)
  refine zOk_do 20 (tbl := tX5_isLane) zck_71 rfl hd (h := ?_)
  refine ⟨fun c => ⟨rfl, rfl, rfl, q0 ?_⟩, fun c => ⟨fun c2 => ⟨rfl, rfl, rfl, q0 ?_⟩, fun c2 => ⟨rfl, rfl, rfl, ?_⟩⟩⟩
  · have c : x < 0 := c
    rw [i_lt, i_0] at c; exact Or.inl c
  · have c2 : nI 2 < x := c2
    rw [i_lt, n2] at c2; exact Or.inr c2
  · have c : ¬ x < 0 := c
    have c2 : ¬ nI 2 < x := c2
    rw [i_lt, i_0] at c
    rw [i_lt, n2] at c2
    rcases zix x (n := 3) (by omega) with ⟨j, hj, e⟩ | q
    · exact q1 j (by omega) e
    · omega
/-- a number is out of some bounds -/
theorem ok_isOutside {x : Int32} {a b : Nat} (hd : 0 < d) (ha : a < 2147483648) (hb : b < 2147483647) (q1 : (x.toInt < a ∨ b < x.toInt) → Q (some (.int (nI 1))) mem) (q0 : ∀ j, a ≤ j → j ≤ b → x = nI j → Q (some (.int (nI 0))) mem) : zOk X d 130 [.int x, .int (nI a), .int (nI b)] mem lk L lk L Q := by
  have na : (nI a).toInt = a := nT ha
  have nb : (nI b).toInt = b := nT (by omega)
  refine zOk_do 20 (tbl := tX7_isOutside) zck_130 rfl hd (h := ?_)
  refine ⟨fun c => ⟨rfl, rfl, rfl, q1 ?_⟩, fun c => ⟨fun c2 => ⟨rfl, rfl, rfl, ?_⟩, fun c2 => ⟨rfl, rfl, rfl, q1 ?_⟩⟩⟩
  · have c : x < nI a := c
    rw [i_lt, na] at c; exact Or.inl c
  · have c : ¬ x < nI a := c
    have c2 : x ≤ nI b := c2
    rw [i_lt, na] at c
    rw [i_le, nb] at c2
    rcases zix x (n := b + 1) (by omega) with ⟨j, hj, e⟩ | q
    · have : x.toInt = j := by rw [e]; exact nT (by omega)
      exact q0 j (by omega) (by omega) e
    · omega
  · have c2 : ¬ x ≤ nI b := c2
    rw [i_le, nb] at c2; exact Or.inr (by omega)
theorem ok_found {n : Nat} (hd : 0 < d) (q : Q (some (.int (-(nI 1000010) - nI n))) (upd mem 109 (nI n))) : zOk X d 128 [.ref 100, .int (nI n)] mem lk L lk L Q := by
  refine zOk_do 20 (tbl := tX7_found) zck_128 rfl hd (h := ?_)
  exact ⟨rfl, rfl, rfl, q⟩
theorem ok_foundNothing {v : Int32} (hd : 0 < d) (q : Q (some (.int v)) (upd mem 109 (nI 0))) : zOk X d 129 [.ref 100, .int v] mem lk L lk L Q := by
  refine zOk_do 20 (tbl := tX7_foundNothing) zck_129 rfl hd (h := ?_)
  exact ⟨rfl, rfl, rfl, q⟩
theorem nneg1 {n : Nat} (h : n < 1000) : ¬ nI n = -(nI 1) := by
  rw [i_eq, nT (by omega), show (-(nI 1)).toInt = -1 from by decide]; omega
theorem ok_isMissing {r : Nat} (hd : 0 < d) (hk : zKs lk) (hR : zCR mem rl rn ri) (ho : zRowOk rl rn) (hr : r < 8) (q1 : rl r = 99 → Q (some (.int (nI 1))) mem) (q0 : rl r ≠ 99 → Q (some (.int (nI 0))) mem) : zOk X d 72 [.ref 120, .int (nI r)] mem lk L lk L Q := by
  have ea : (nI r).toNatClampNeg = r := nC (by omega)
  refine zOk_do 20 (tbl := tX5_isMissing) zck_72 rfl hd (h := ?_)
  refine ⟨rfl, _, hk.at 120 130, Or.inl rfl, in8 130 rfl hr, fun c => ⟨rfl, rfl, rfl, q0 (fun z => c ?_)⟩, fun c => ⟨rfl, rfl, rfl, q1 (Decidable.byContradiction fun z => ?_)⟩⟩
  · show mem (130 + (nI r).toNatClampNeg) = -(nI 1)
    rw [ea]; exact (hR.1 r hr).1 z
  · have c : mem (130 + (nI r).toNatClampNeg) = -(nI 1) := c
    rw [ea, ((hR.1 r hr).2 z).1] at c
    exact nneg1 (by have := ho r hr z; omega) c
theorem ok_covers {r : Nat} {i n : Int32} (hd : 0 < d) (hk : zKs lk) (hR : zCR mem rl rn ri) (ho : zRowOk rl rn) (hr : r < 8) (hp : rl r ≠ 99) (q1 : ∀ a b, i = nI a → n = nI b → a + b ≤ rn r → Q (some (.int (nI 1))) mem) (q0 : (i.toInt < 0 ∨ n.toInt < 0 ∨ (rn r : Int) < i.toInt + n.toInt) → Q (some (.int (nI 0))) mem) : zOk X d 73 [.ref 120, .int (nI r), .int i, .int n] mem lk L lk L Q := by
  have ea : (nI r).toNatClampNeg = r := nC (by omega)
  have h40 := (ho r hr hp).2
  have el : mem (140 + (nI r).toNatClampNeg) = nI (rn r) := by rw [ea]; exact ((hR.1 r hr).2 hp).2
  refine zOk_do 20 (tbl := tX5_covers) zck_73 rfl hd (h := ?_)
  refine ⟨fun c => ⟨rfl, rfl, rfl, q0 ?_⟩, fun c => ⟨fun c2 => ⟨rfl, rfl, rfl, q0 ?_⟩, fun c2 => ⟨rfl, _, hk.at 121 140, Or.inl rfl, in8 140 rfl hr, fun c3 => ⟨rfl, rfl, rfl, q0 ?_⟩, fun c3 => ⟨rfl, rfl, rfl, ?_⟩⟩⟩⟩
  · have c : n < 0 := c
    rw [i_lt, i_0] at c; exact Or.inr (Or.inl c)
  · have c2 : i < 0 := c2
    rw [i_lt, i_0] at c2; exact Or.inl c2
  · have c : ¬ n < 0 := c
    have c3 : mem (140 + (nI r).toNatClampNeg) - n < i := c3
    rw [i_lt, i_0] at c
    obtain ⟨b, hb, e⟩ : ∃ b, b < 2147483648 ∧ n = nI b := ⟨n.toInt.toNat, by have := n.toInt_lt; omega, by rw [i_eq, nT (by have := n.toInt_lt; omega)]; omega⟩
    rw [el, e, i_lt, nsubT (by omega) (by omega)] at c3
    rw [e, nT (by omega)]; exact Or.inr (Or.inr (by omega))
  · have c : ¬ n < 0 := c
    have c2 : ¬ i < 0 := c2
    have c3 : ¬ mem (140 + (nI r).toNatClampNeg) - n < i := c3
    rw [i_lt, i_0] at c c2
    obtain ⟨b, hb, e⟩ : ∃ b, b < 2147483648 ∧ n = nI b := ⟨n.toInt.toNat, by have := n.toInt_lt; omega, by rw [i_eq, nT (by have := n.toInt_lt; omega)]; omega⟩
    obtain ⟨a, ha, e2⟩ : ∃ a, a < 2147483648 ∧ i = nI a := ⟨i.toInt.toNat, by have := i.toInt_lt; omega, by rw [i_eq, nT (by have := i.toInt_lt; omega)]; omega⟩
    rw [el, e, e2, i_lt, nsubT (by omega) (by omega), nT (by omega)] at c3
    exact q1 a b e2 e (by omega)
/-- a row is begun -/
def zri0 (ri : Nat → Int32) (r : Nat) (i : Nat) : Int32 := if 40 * r ≤ i ∧ i < 40 * r + 40 then nI 0 else ri i
theorem ok_begin {r l n : Nat} (hd : 1 < d) (hk : zKs lk) (hR : zCR mem rl rn ri) (hr : r < 8) (hl : l ≤ 2) (q : ∀ mem', zCR mem' (va_up rl r l) (va_up rn r n) (zri0 ri r) → (∀ x, ¬ (130 ≤ x ∧ x < 520) → mem' x = mem x) → Q none mem') : zOk X d 74 [.ref 120, .int (nI r), .int (nI l), .int (nI n)] mem lk L lk L Q := by
  have ea : (nI r).toNatClampNeg = r := nC (by omega)
  refine zOk_do 40 (tbl := tX5_begin) zck_74 rfl (by omega) (h := ?_)
  refine ⟨rfl, _, hk.at 120 130, rfl, in8 130 rfl hr, rfl, _, hk.at 121 140, rfl, in8 140 rfl hr, rfl, _, hk.at 122 150, Or.inr rfl, in8 150 rfl hr, fun z => ?_, fun t ht => ?_⟩
  · exfalso
    have z : lk (150 + (nI r).toNatClampNeg) = none := z
    rw [ea, hk.2 r hr] at z; cases z
  · have ht : lk (150 + (nI r).toNatClampNeg) = some t := ht
    rw [ea, hk.2 r hr] at ht
    cases ht
    refine ok_fill (n := 40) (by omega) (kd_item hr) (ln_item hr) (by omega) (fun m1 h1 h2 => ⟨rfl, rfl, q m1 ⟨fun k hk8 => ?_, fun i hi => ?_⟩ (fun x hx => ?_)⟩)
    · have e1 : m1 (130 + k) = upd (upd mem (130 + (nI r).toNatClampNeg) (nI l)) (140 + (nI r).toNatClampNeg) (nI n) (130 + k) := h2 _ (by omega)
      have e2 : m1 (140 + k) = upd (upd mem (130 + (nI r).toNatClampNeg) (nI l)) (140 + (nI r).toNatClampNeg) (nI n) (140 + k) := h2 _ (by omega)
      rw [ea] at e1 e2
      by_cases c : k = r
      · subst c
        rw [upd_ne (by omega), upd_eq] at e1
        rw [upd_eq] at e2
        rw [zup_eq, zup_eq]
        exact ⟨fun z => by omega, fun _ => ⟨e1, e2⟩⟩
      · rw [upd_ne (by omega), upd_ne (by omega)] at e1
        rw [upd_ne (by omega), upd_ne (by omega)] at e2
        rw [zup_ne c, zup_ne c, e1, e2]
        exact hR.1 k hk8
    · unfold zri0
      by_cases c : 40 * r ≤ i ∧ i < 40 * r + 40
      · rw [if_pos c, show 200 + i = 200 + 40 * r + (i - 40 * r) by omega]
        exact h1 _ (by omega)
      · rw [if_neg c]
        have e1 : m1 (200 + i) = upd (upd mem (130 + (nI r).toNatClampNeg) (nI l)) (140 + (nI r).toNatClampNeg) (nI n) (200 + i) := h2 _ (by omega)
        rw [e1, ea, upd_ne (by omega), upd_ne (by omega)]
        exact hR.2 i hi
    · have e1 : m1 x = upd (upd mem (130 + (nI r).toNatClampNeg) (nI l)) (140 + (nI r).toNatClampNeg) (nI n) x := h2 _ (by omega)
      rw [e1, ea, upd_ne (by omega), upd_ne (by omega)]
/-- a number cut to a lane -/
def zcut (l : Nat) (v : Int32) : Int32 := if l = 0 then v.toInt8.toInt32 else if l = 1 then v.toInt16.toInt32 else v
theorem put_fin {r i : Nat} {v : Int32} (hk : zKs lk) (hR : zCR mem rl rn ri) (hr : r < 8) (hi : i < 40) (q : ∀ mem', zCR mem' rl rn (va_up ri (40 * r + i) v) → (∀ x, ¬ (200 ≤ x ∧ x < 520) → mem' x = mem x) → Q (some (.int v)) mem') : Q (some (.int v)) (upd mem (200 + 40 * r + (nI i).toNatClampNeg) v) := by
  rw [nC (by omega)]
  refine q _ ⟨fun k hk8 => ?_, fun j hj => ?_⟩ (fun x hx => upd_ne (by omega))
  · rw [upd_ne (by omega), upd_ne (by omega)]; exact hR.1 k hk8
  · by_cases c : j = 40 * r + i
    · subst c; rw [zup_eq, show 200 + (40 * r + i) = 200 + 40 * r + i by omega, upd_eq]
    · rw [zup_ne c, upd_ne (by omega)]; exact hR.2 j hj
theorem ok_put {r i : Nat} {v : Int32} (hd : 0 < d) (hk : zKs lk) (hR : zCR mem rl rn ri) (ho : zRowOk rl rn) (hr : r < 8) (hp : rl r ≠ 99) (hi : i < 40) (q : ∀ mem', zCR mem' rl rn (va_up ri (40 * r + i) (zcut (rl r) v)) → (∀ x, ¬ (200 ≤ x ∧ x < 520) → mem' x = mem x) → Q (some (.int (zcut (rl r) v))) mem') : zOk X d 75 [.ref 120, .int (nI r), .int (nI i), .int v] mem lk L lk L Q := by
  have ea : (nI r).toNatClampNeg = r := nC (by omega)
  have h2 := (ho r hr hp).1
  have el : mem (130 + (nI r).toNatClampNeg) = nI (rl r) := by rw [ea]; exact ((hR.1 r hr).2 hp).1
  have hin : vp_in (nI i) (ln X (200 + 40 * r)) := by rw [ln_item hr]; exact vp_in_nI hi (by decide)
  have hno : ∀ {A : Prop}, lk (150 + (nI r).toNatClampNeg) = none → A := fun {A} z => by rw [ea, hk.2 r hr] at z; cases z
  have hso : ∀ t, lk (150 + (nI r).toNatClampNeg) = some t → t = 200 + 40 * r := fun t ht => by rw [ea, hk.2 r hr] at ht; cases ht; rfl
  refine zOk_do 60 (tbl := tX5_put) zck_75 rfl (by omega) (h := ?_)
  refine ⟨rfl, _, hk.at 120 130, Or.inl rfl, in8 130 rfl hr, fun c => ⟨rfl, _, hk.at 120 130, Or.inl rfl, in8 130 rfl hr, fun c2 => ⟨rfl, _, hk.at 122 150, Or.inr rfl, in8 150 rfl hr, fun z => hno z, fun t ht => ?_⟩, fun c2 => ⟨rfl, _, hk.at 122 150, Or.inr rfl, in8 150 rfl hr, fun z => hno z, fun t ht => ?_⟩⟩, fun c => ⟨rfl, _, hk.at 122 150, Or.inr rfl, in8 150 rfl hr, fun z => hno z, fun t ht => ?_⟩⟩
  · have c : ¬ mem (130 + (nI r).toNatClampNeg) = 0 := c
    have c2 : ¬ mem (130 + (nI r).toNatClampNeg) = nI 1 := c2
    rw [el, n0 (by omega)] at c
    rw [el, nEq (by omega) (by omega)] at c2
    have hz : zcut (rl r) v = v := by unfold zcut; rw [if_neg c, if_neg c2]
    rw [hz] at q
    cases hso t ht
    exact ⟨kd_item hr, hin, rfl, rfl, put_fin hk hR hr hi q⟩
  · have c : ¬ mem (130 + (nI r).toNatClampNeg) = 0 := c
    have c2 : mem (130 + (nI r).toNatClampNeg) = nI 1 := c2
    rw [el, n0 (by omega)] at c
    rw [el, nEq (by omega) (by omega)] at c2
    have hz : zcut (rl r) v = v.toInt16.toInt32 := by unfold zcut; rw [if_neg c, if_pos c2]
    rw [hz] at q
    cases hso t ht
    exact ⟨kd_item hr, hin, rfl, rfl, put_fin hk hR hr hi q⟩
  · have c : mem (130 + (nI r).toNatClampNeg) = 0 := c
    rw [el, n0 (by omega)] at c
    have hz : zcut (rl r) v = v.toInt8.toInt32 := by unfold zcut; rw [if_pos c]
    rw [hz] at q
    cases hso t ht
    exact ⟨kd_item hr, hin, rfl, rfl, put_fin hk hR hr hi q⟩
theorem ok_lose76 {r : Nat} (hd : 0 < d) (hk : zKs lk) (hR : zCR mem rl rn ri) (hr : r < 8) (hp : rl r ≠ 99) (q : ∀ mem', zCR mem' (va_up rl r 99) rn ri → (∀ x, ¬ (130 ≤ x ∧ x < 138) → mem' x = mem x) → Q (some (.int (nI (rn r)))) mem') : zOk X d 76 [.ref 120, .int (nI r)] mem lk L lk L Q := by
  have ea : (nI r).toNatClampNeg = r := nC (by omega)
  refine zOk_do 40 (tbl := tX5_lose) zck_76 rfl (by omega) (h := ?_)
  refine ⟨rfl, _, hk.at 120 130, rfl, in8 130 rfl hr, rfl, _, hk.at 121 140, Or.inl rfl, in8 140 rfl hr, rfl, rfl, ?_⟩
  show Q (some (.int (upd mem (130 + (nI r).toNatClampNeg) (-(nI 1)) (140 + (nI r).toNatClampNeg)))) (upd mem (130 + (nI r).toNatClampNeg) (-(nI 1)))
  rw [ea, upd_ne (by omega), ((hR.1 r hr).2 hp).2]
  refine q _ ⟨fun k hk8 => ?_, fun j hj => by rw [upd_ne (by omega)]; exact hR.2 j hj⟩ (fun x hx => upd_ne (by omega))
  by_cases c : k = r
  · subst c; rw [zup_eq, upd_eq]; exact ⟨fun _ => rfl, fun z => absurd rfl z⟩
  · rw [zup_ne c, upd_ne (by omega), upd_ne (by omega)]; exact hR.1 k hk8
end RW
