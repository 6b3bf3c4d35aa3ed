/-! the reference: reading a row of w -/
section MR
variable {X d : Nat} {mem : zMem} {lk : zLk} {L : List Nat} {Q : Option Value → zMem → Prop} {r : Nat} {g : zH}
theorem minsideOf_loop (hw : lk 1000 = some 2000) (hr : r + 43 ≤ 1247) (hb : zHB mem (2000 + r) g) (hn : g 0 ≤ 6) (hg : ∀ e, e < g 0 → g (13 + e) ≤ 11) (q : Q (some (.int (nI (zbits g 10 (g 0))))) mem) : ∀ n i, i + n = g 0 → zE X d 157 4 [.ref 1000, .int (nI r), .int (nI (zbits g 10 i)), .int (nI i)] [] mem lk L lk L Q := by
  have e0 : mem (2000 + (nI r + nI 0).toNatClampNeg) = nI (g 0) := by rw [zw1 (by omega)]; exact hb.k 0 (by omega)
  intro n
  induction n with
  | zero =>
    intro i hi
    refine zE_do 40 4 (tbl := tX8_insideOf) zck_157 rfl (h := ?_)
    refine ⟨rfl, _, hw, Or.inl rfl, zwi1 (by omega), fun c => ⟨rfl, rfl, ?_⟩, fun c => ?_⟩
    · rw [show i = g 0 by omega]; exact q
    · exfalso
      have c : ¬ mem (2000 + (nI r + nI 0).toNatClampNeg) ≤ nI i := c
      rw [e0, nLe (by omega) (by omega)] at c
      omega
  | succ n ih =>
    intro i hi
    have k := ih (i + 1) (by omega)
    rw [← nI_1] at k
    have g11 := hg i (by omega)
    have e1 : mem (2000 + (nI r + nI 13 + nI i).toNatClampNeg) = nI (g (13 + i)) := by rw [zw2 (by omega), show 2000 + (r + 13 + i) = 2000 + r + 13 + i by omega]; exact hb.at (by omega)
    refine zE_do 40 4 (tbl := tX8_insideOf) zck_157 rfl (h := ?_)
    refine ⟨rfl, _, hw, Or.inl rfl, zwi1 (by omega), fun c => ?_, fun c => ⟨rfl, _, hw, Or.inl rfl, zwi2 (by omega), fun c2 => ?_, fun c2 => ?_⟩⟩
    · exfalso
      have c : mem (2000 + (nI r + nI 0).toNatClampNeg) ≤ nI i := c
      rw [e0, nLe (by omega) (by omega)] at c
      omega
    · have c2 : ¬ mem (2000 + (nI r + nI 13 + nI i).toNatClampNeg) = nI 10 := c2
      rw [e1, nEq (by omega) (by omega)] at c2
      rw [show zbits g 10 (i + 1) = zbits g 10 i from if_neg c2, ← zor0 (nI (zbits g 10 i))] at k
      exact k
    · have c2 : mem (2000 + (nI r + nI 13 + nI i).toNatClampNeg) = nI 10 := c2
      rw [e1, nEq (by omega) (by omega)] at c2
      rw [show zbits g 10 (i + 1) = zbits g 10 i ||| 2 ^ i from if_pos c2, ← zor_t i (by omega) _ (zbits_512 g 10 i (by omega))] at k
      exact k
theorem ok_minsideOf (hd : 0 < d) (hw : lk 1000 = some 2000) (hr : r + 43 ≤ 1247) (hb : zHB mem (2000 + r) g) (hn : g 0 ≤ 6) (hg : ∀ e, e < g 0 → g (13 + e) ≤ 11) (q : Q (some (.int (nI (zbits g 10 (g 0))))) mem) : zOk X d 157 [.ref 1000, .int (nI r)] mem lk L lk L Q := by
  refine zOk_do 20 (tbl := tX8_insideOf) zck_157 rfl hd (h := ?_)
  exact minsideOf_loop hw hr hb hn hg q (g 0) 0 (by omega)
theorem mservedOf_loop (hw : lk 1000 = some 2000) (hr : r + 43 ≤ 1247) (hb : zHB mem (2000 + r) g) (hn : g 0 ≤ 6) (hg : ∀ e, e < g 0 → g (13 + e) ≤ 11) (q : Q (some (.int (nI (zbits g 11 (g 0))))) mem) : ∀ n i, i + n = g 0 → zE X d 158 4 [.ref 1000, .int (nI r), .int (nI (zbits g 11 i)), .int (nI i)] [] mem lk L lk L Q := by
  have e0 : mem (2000 + (nI r + nI 0).toNatClampNeg) = nI (g 0) := by rw [zw1 (by omega)]; exact hb.k 0 (by omega)
  intro n
  induction n with
  | zero =>
    intro i hi
    refine zE_do 40 4 (tbl := tX8_servedOf) zck_158 rfl (h := ?_)
    refine ⟨rfl, _, hw, Or.inl rfl, zwi1 (by omega), fun c => ⟨rfl, rfl, ?_⟩, fun c => ?_⟩
    · rw [show i = g 0 by omega]; exact q
    · exfalso
      have c : ¬ mem (2000 + (nI r + nI 0).toNatClampNeg) ≤ nI i := c
      rw [e0, nLe (by omega) (by omega)] at c
      omega
  | succ n ih =>
    intro i hi
    have k := ih (i + 1) (by omega)
    rw [← nI_1] at k
    have g11 := hg i (by omega)
    have e1 : mem (2000 + (nI r + nI 13 + nI i).toNatClampNeg) = nI (g (13 + i)) := by rw [zw2 (by omega), show 2000 + (r + 13 + i) = 2000 + r + 13 + i by omega]; exact hb.at (by omega)
    refine zE_do 40 4 (tbl := tX8_servedOf) zck_158 rfl (h := ?_)
    refine ⟨rfl, _, hw, Or.inl rfl, zwi1 (by omega), fun c => ?_, fun c => ⟨rfl, _, hw, Or.inl rfl, zwi2 (by omega), fun c2 => ?_, fun c2 => ?_⟩⟩
    · exfalso
      have c : mem (2000 + (nI r + nI 0).toNatClampNeg) ≤ nI i := c
      rw [e0, nLe (by omega) (by omega)] at c
      omega
    · have c2 : ¬ mem (2000 + (nI r + nI 13 + nI i).toNatClampNeg) = nI 11 := c2
      rw [e1, nEq (by omega) (by omega)] at c2
      rw [show zbits g 11 (i + 1) = zbits g 11 i from if_neg c2, ← zor0 (nI (zbits g 11 i))] at k
      exact k
    · have c2 : mem (2000 + (nI r + nI 13 + nI i).toNatClampNeg) = nI 11 := c2
      rw [e1, nEq (by omega) (by omega)] at c2
      rw [show zbits g 11 (i + 1) = zbits g 11 i ||| 2 ^ i from if_pos c2, ← zor_t i (by omega) _ (zbits_512 g 11 i (by omega))] at k
      exact k
theorem ok_mservedOf (hd : 0 < d) (hw : lk 1000 = some 2000) (hr : r + 43 ≤ 1247) (hb : zHB mem (2000 + r) g) (hn : g 0 ≤ 6) (hg : ∀ e, e < g 0 → g (13 + e) ≤ 11) (q : Q (some (.int (nI (zbits g 11 (g 0))))) mem) : zOk X d 158 [.ref 1000, .int (nI r)] mem lk L lk L Q := by
  refine zOk_do 20 (tbl := tX8_servedOf) zck_158 rfl hd (h := ?_)
  exact mservedOf_loop hw hr hb hn hg q (g 0) 0 (by omega)
theorem zadd0 (a : Int32) : a + nI 0 = a := by
  rw [show nI 0 = 0 from rfl]; simp
theorem mweightOf_loop {b : Nat} (hd : 1 < d) (hw : lk 1000 = some 2000) (hr : r + 43 ≤ 1247) (hb : zHB mem (2000 + r) g) (hn : g 0 ≤ 6) (hbb : b < 64) (q : Q (some (.int (nI (zsum g 25 b (g 0))))) mem) : ∀ n i, i + n = g 0 → zE X d 159 5 [.ref 1000, .int (nI r), .int (nI b), .int (nI (zsum g 25 b i)), .int (nI i)] [] mem lk L lk L Q := by
  have e0 : mem (2000 + (nI r + nI 0).toNatClampNeg) = nI (g 0) := by rw [zw1 (by omega)]; exact hb.k 0 (by omega)
  intro n
  induction n with
  | zero =>
    intro i hi
    refine zE_do 40 5 (tbl := tX8_weightOf) zck_159 rfl (h := ?_)
    refine ⟨rfl, _, hw, Or.inl rfl, zwi1 (by omega), fun c => ⟨rfl, rfl, ?_⟩, fun c => ?_⟩
    · rw [show i = g 0 by omega]; exact q
    · exfalso
      have c : ¬ mem (2000 + (nI r + nI 0).toNatClampNeg) ≤ nI i := c
      rw [e0, nLe (by omega) (by omega)] at c
      omega
  | succ n ih =>
    intro i hi
    have k := ih (i + 1) (by omega)
    rw [← nI_1, show zsum g 25 b (i + 1) = zsum g 25 b i + b / 2 ^ i % 2 * g (25 + i) from rfl] at k
    have e1 : mem (2000 + (nI r + nI 25 + nI i).toNatClampNeg) = nI (g (25 + i)) := by rw [zw2 (by omega), show 2000 + (r + 25 + i) = 2000 + r + 25 + i by omega]; exact hb.wt (by omega)
    refine zE_do 40 5 (tbl := tX8_weightOf) zck_159 rfl (h := ?_)
    refine ⟨rfl, _, hw, Or.inl rfl, zwi1 (by omega), fun c => ?_, fun c => ok_has (by omega) hbb (by omega) (fun c2 => zT_eq ⟨rfl, _, hw, Or.inl rfl, zwi2 (by omega), ?_⟩) (fun c2 => zF_eq ?_)⟩
    · exfalso
      have c : mem (2000 + (nI r + nI 0).toNatClampNeg) ≤ nI i := c
      rw [e0, nLe (by omega) (by omega)] at c
      omega
    · rw [c2, Nat.one_mul, ← nI_add, ← e1] at k
      exact k
    · rw [c2, Nat.zero_mul, Nat.add_zero, ← zadd0 (nI (zsum g 25 b i))] at k
      exact k
theorem ok_mweightOf {b : Nat} (hd : 1 < d) (hw : lk 1000 = some 2000) (hr : r + 43 ≤ 1247) (hb : zHB mem (2000 + r) g) (hn : g 0 ≤ 6) (hbb : b < 64) (q : Q (some (.int (nI (zsum g 25 b (g 0))))) mem) : zOk X d 159 [.ref 1000, .int (nI r), .int (nI b)] mem lk L lk L Q := by
  refine zOk_do 20 (tbl := tX8_weightOf) zck_159 rfl (by omega) (h := ?_)
  exact mweightOf_loop hd hw hr hb hn hbb q (g 0) 0 (by omega)
theorem ok_misGood {k t : Nat} (hd : 0 < d) (hk : k < 1000) (ht : t < 1000) (q1 : zgood k t → Q (some (.int (nI 1))) mem) (q0 : ¬ zgood k t → Q (some (.int (nI 0))) mem) : zOk X d 166 [.int (nI k), .int (nI t)] mem lk L lk L Q := by
  refine zOk_do 20 (tbl := tX8_isGood) zck_166 rfl hd (h := ?_)
  refine ⟨fun c => ⟨fun c2 => ⟨rfl, rfl, rfl, q0 ?_⟩, fun c2 => ⟨rfl, rfl, rfl, q1 ?_⟩⟩, fun c => ⟨fun c2 => ⟨rfl, rfl, rfl, q0 ?_⟩, fun c2 => ⟨rfl, rfl, rfl, q1 ?_⟩⟩⟩
  all_goals
    rw [nLt (by omega) (by omega)] at c c2
    unfold zgood
    first | rw [if_pos c] | rw [if_neg c]
    omega
theorem mfineOf_loop (hd : 1 < d) (hw : lk 1000 = some 2000) (hr : r + 43 ≤ 1247) (hb : zHB mem (2000 + r) g) (wf : zWF g) (q : Q (some (.int (nI (zfine g (g 0))))) mem) : ∀ n i, i + n = g 0 → zE X d 167 4 [.ref 1000, .int (nI r), .int (nI (zfine g i)), .int (nI i)] [] mem lk L lk L Q := by
  have hn := wf.1
  have e0 : mem (2000 + (nI r + nI 0).toNatClampNeg) = nI (g 0) := by rw [zw1 (by omega)]; exact hb.k 0 (by omega)
  intro n
  induction n with
  | zero =>
    intro i hi
    refine zE_do 60 4 (tbl := tX8_fineOf) zck_167 rfl (h := ?_)
    refine ⟨rfl, _, hw, Or.inl rfl, zwi1 (by omega), fun c => ⟨rfl, rfl, ?_⟩, fun c => ?_⟩
    · rw [show i = g 0 by omega]; exact q
    · exfalso
      have c : ¬ mem (2000 + (nI r + nI 0).toNatClampNeg) ≤ nI i := c
      rw [e0, nLe (by omega) (by omega)] at c
      omega
  | succ n ih =>
    intro i hi
    have k := ih (i + 1) (by omega)
    rw [← nI_1] at k
    have g11 := wf.at11 i (by omega)
    obtain ⟨w1, -, -, -, w5⟩ := wf.2.2.2.2.2.2.2.2 i (by omega)
    have e1 : mem (2000 + (nI r + nI 13 + nI i).toNatClampNeg) = nI (g (13 + i)) := by rw [zw2 (by omega), show 2000 + (r + 13 + i) = 2000 + r + 13 + i by omega]; exact hb.at (by omega)
    have e2 : mem (2000 + (nI r + nI 7 + nI i).toNatClampNeg) = nI (g (7 + i)) := by rw [zw2 (by omega), show 2000 + (r + 7 + i) = 2000 + r + 7 + i by omega]; exact hb.kind (by omega)
    have e3 : mem (2000 + (nI r + nI 31 + nI i).toNatClampNeg) = nI (g (31 + i)) := by rw [zw2 (by omega), show 2000 + (r + 31 + i) = 2000 + r + 31 + i by omega]; exact hb.ht (by omega)
    refine zE_do 60 4 (tbl := tX8_fineOf) zck_167 rfl (h := ?_)
    refine ⟨rfl, _, hw, Or.inl rfl, zwi1 (by omega), fun c => ?_, fun c => ⟨rfl, _, hw, Or.inl rfl, zwi2 (by omega), fun c2 => ?_, fun c2 => ⟨rfl, _, hw, Or.inl rfl, zwi2 (by omega), rfl, _, hw, Or.inl rfl, zwi2 (by omega), ?_⟩⟩⟩
    · exfalso
      have c : mem (2000 + (nI r + nI 0).toNatClampNeg) ≤ nI i := c
      rw [e0, nLe (by omega) (by omega)] at c
      omega
    · have c2 : ¬ mem (2000 + (nI r + nI 13 + nI i).toNatClampNeg) = nI 11 := c2
      rw [e1, nEq (by omega) (by omega)] at c2
      rw [show zfine g (i + 1) = zfine g i from if_neg (fun z => c2 z.1), ← zor0 (nI (zfine g i))] at k
      exact k
    · have c2 : mem (2000 + (nI r + nI 13 + nI i).toNatClampNeg) = nI 11 := c2
      rw [e1, nEq (by omega) (by omega)] at c2
      show zOk X (d - 1) 166 [.int (mem (2000 + (nI r + nI 7 + nI i).toNatClampNeg)), .int (mem (2000 + (nI r + nI 31 + nI i).toNatClampNeg))] mem lk L lk L _
      rw [e2, e3]
      refine ok_misGood (by omega) (by omega) (by omega) (fun c3 => zT_eq ?_) (fun c3 => zF_eq ?_)
      · rw [show zfine g (i + 1) = zfine g i ||| 2 ^ i from if_pos ⟨c2, c3⟩, ← zor_t i (by omega) _ (zfine_512 g i (by omega))] at k
        exact k
      · rw [show zfine g (i + 1) = zfine g i from if_neg (fun z => c3 z.2), ← zor0 (nI (zfine g i))] at k
        exact k
theorem ok_mfineOf (hd : 1 < d) (hw : lk 1000 = some 2000) (hr : r + 43 ≤ 1247) (hb : zHB mem (2000 + r) g) (wf : zWF g) (q : Q (some (.int (nI (zfine g (g 0))))) mem) : zOk X d 167 [.ref 1000, .int (nI r)] mem lk L lk L Q := by
  refine zOk_do 20 (tbl := tX8_fineOf) zck_167 rfl (by omega) (h := ?_)
  exact mfineOf_loop hd hw hr hb wf q (g 0) 0 (by omega)
theorem mheatServed_loop (hw : lk 1000 = some 2000) (hr : r + 43 ≤ 1247) (hb : zHB mem (2000 + r) g) (wf : zWF g) (q : Q (some (.int (nI (zwts g 11 31 (g 0))))) mem) : ∀ n i, i + n = g 0 → zE X d 168 4 [.ref 1000, .int (nI r), .int (nI (zwts g 11 31 i)), .int (nI i)] [] mem lk L lk L Q := by
  have hn := wf.1
  have e0 : mem (2000 + (nI r + nI 0).toNatClampNeg) = nI (g 0) := by rw [zw1 (by omega)]; exact hb.k 0 (by omega)
  intro n
  induction n with
  | zero =>
    intro i hi
    refine zE_do 60 4 (tbl := tX8_heatServed) zck_168 rfl (h := ?_)
    refine ⟨rfl, _, hw, Or.inl rfl, zwi1 (by omega), fun c => ⟨rfl, rfl, ?_⟩, fun c => ?_⟩
    · rw [show i = g 0 by omega]; exact q
    · exfalso
      have c : ¬ mem (2000 + (nI r + nI 0).toNatClampNeg) ≤ nI i := c
      rw [e0, nLe (by omega) (by omega)] at c
      omega
  | succ n ih =>
    intro i hi
    have k := ih (i + 1) (by omega)
    rw [← nI_1, show zwts g 11 31 (i + 1) = zwts g 11 31 i + (if g (13 + i) = 11 then g (31 + i) else 0) from rfl] at k
    have g11 := wf.at11 i (by omega)
    have e1 : mem (2000 + (nI r + nI 13 + nI i).toNatClampNeg) = nI (g (13 + i)) := by rw [zw2 (by omega), show 2000 + (r + 13 + i) = 2000 + r + 13 + i by omega]; exact hb.at (by omega)
    have e3 : mem (2000 + (nI r + nI 31 + nI i).toNatClampNeg) = nI (g (31 + i)) := by rw [zw2 (by omega), show 2000 + (r + 31 + i) = 2000 + r + 31 + i by omega]; exact hb.ht (by omega)
    refine zE_do 60 4 (tbl := tX8_heatServed) zck_168 rfl (h := ?_)
    refine ⟨rfl, _, hw, Or.inl rfl, zwi1 (by omega), fun c => ?_, fun c => ⟨rfl, _, hw, Or.inl rfl, zwi2 (by omega), fun c2 => ?_, fun c2 => ⟨rfl, _, hw, Or.inl rfl, zwi2 (by omega), ?_⟩⟩⟩
    · exfalso
      have c : mem (2000 + (nI r + nI 0).toNatClampNeg) ≤ nI i := c
      rw [e0, nLe (by omega) (by omega)] at c
      omega
    · have c2 : ¬ mem (2000 + (nI r + nI 13 + nI i).toNatClampNeg) = nI 11 := c2
      rw [e1, nEq (by omega) (by omega)] at c2
      rw [if_neg c2, Nat.add_zero, ← zadd0 (nI (zwts g 11 31 i))] at k
      exact k
    · have c2 : mem (2000 + (nI r + nI 13 + nI i).toNatClampNeg) = nI 11 := c2
      rw [e1, nEq (by omega) (by omega)] at c2
      rw [if_pos c2, ← nI_add, ← e3] at k
      exact k
theorem ok_mheatServed (hd : 0 < d) (hw : lk 1000 = some 2000) (hr : r + 43 ≤ 1247) (hb : zHB mem (2000 + r) g) (wf : zWF g) (q : Q (some (.int (nI (zwts g 11 31 (g 0))))) mem) : zOk X d 168 [.ref 1000, .int (nI r)] mem lk L lk L Q := by
  refine zOk_do 20 (tbl := tX8_heatServed) zck_168 rfl (by omega) (h := ?_)
  exact mheatServed_loop hw hr hb wf q (g 0) 0 (by omega)
/-- the sum of a field of all -/
def ztot (g : zH) (f : Nat) : Nat → Nat
  | 0 => 0
  | i + 1 => ztot g f i + g (f + i)
theorem mheatOf_loop (hw : lk 1000 = some 2000) (hr : r + 43 ≤ 1247) (hb : zHB mem (2000 + r) g) (hn : g 0 ≤ 6) (q : Q (some (.int (nI (ztot g 31 (g 0))))) mem) : ∀ n i, i + n = g 0 → zE X d 169 4 [.ref 1000, .int (nI r), .int (nI (ztot g 31 i)), .int (nI i)] [] mem lk L lk L Q := by
  have e0 : mem (2000 + (nI r + nI 0).toNatClampNeg) = nI (g 0) := by rw [zw1 (by omega)]; exact hb.k 0 (by omega)
  intro n
  induction n with
  | zero =>
    intro i hi
    refine zE_do 60 4 (tbl := tX8_heatOf) zck_169 rfl (h := ?_)
    refine ⟨rfl, _, hw, Or.inl rfl, zwi1 (by omega), fun c => ⟨rfl, rfl, ?_⟩, fun c => ?_⟩
    · rw [show i = g 0 by omega]; exact q
    · exfalso
      have c : ¬ mem (2000 + (nI r + nI 0).toNatClampNeg) ≤ nI i := c
      rw [e0, nLe (by omega) (by omega)] at c
      omega
  | succ n ih =>
    intro i hi
    have k := ih (i + 1) (by omega)
    have e3 : mem (2000 + (nI r + nI 31 + nI i).toNatClampNeg) = nI (g (31 + i)) := by rw [zw2 (by omega), show 2000 + (r + 31 + i) = 2000 + r + 31 + i by omega]; exact hb.ht (by omega)
    rw [← nI_1, show ztot g 31 (i + 1) = ztot g 31 i + g (31 + i) from rfl, ← nI_add, ← e3] at k
    refine zE_do 60 4 (tbl := tX8_heatOf) zck_169 rfl (h := ?_)
    refine ⟨rfl, _, hw, Or.inl rfl, zwi1 (by omega), fun c => ?_, fun c => ⟨rfl, _, hw, Or.inl rfl, zwi2 (by omega), k⟩⟩
    exfalso
    have c : mem (2000 + (nI r + nI 0).toNatClampNeg) ≤ nI i := c
    rw [e0, nLe (by omega) (by omega)] at c
    omega
theorem ok_mheatOf (hd : 0 < d) (hw : lk 1000 = some 2000) (hr : r + 43 ≤ 1247) (hb : zHB mem (2000 + r) g) (hn : g 0 ≤ 6) (q : Q (some (.int (nI (ztot g 31 (g 0))))) mem) : zOk X d 169 [.ref 1000, .int (nI r)] mem lk L lk L Q := by
  refine zOk_do 20 (tbl := tX8_heatOf) zck_169 rfl (by omega) (h := ?_)
  exact mheatOf_loop hw hr hb hn q (g 0) 0 (by omega)
end MR
