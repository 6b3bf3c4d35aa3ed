/-! the reference: a minute of a row of w -/
theorem upd_self {m : zMem} {x : Nat} {v : Int32} (h : m x = v) : upd m x v = m := by
  funext j
  by_cases e : j = x
  · subst e; rw [upd_eq]; exact h.symm
  · rw [upd_ne e]
/-- the order of rank of a row -/
def zRk (mem : zMem) (b : Nat) (ord : Nat → Nat) (n : Nat) : Prop := ∀ e, e < n → mem (b + 37 + e) = nI (ord e) ∧ ord e < n
theorem zRk.fr {mem mem' : zMem} {b n : Nat} {ord : Nat → Nat} (h : zRk mem b ord n) (hf : zfr mem mem' b) : zRk mem' b ord n := fun e he => by
  rw [hf _ (by omega)]; exact h e he
section MP
variable {X d : Nat} {mem : zMem} {lk : zLk} {L : List Nat} {Q : Option Value → zMem → Prop} {r : Nat} {g : zH}
theorem serves_mid {i k f : Nat} {v4 : Int32} {fits : Prop} [Decidable fits] (hf : f = if fits then 1 else 0) (hw : lk 1000 = some 2000) (hr : r + 43 ≤ 1247) {m1 : zMem} {gi : zH} (hb : zHB m1 (2000 + r) gi) (wi : zWF gi) (hk : k < gi 0)
    (q : ∀ m2, zHB m2 (2000 + r) (if gi (13 + k) = gi 4 ∧ fits then va_up gi (13 + k) 10 else gi) → zfr m1 m2 (2000 + r) → zE X d 160 119 [.ref 1000, .int (nI r), .int (nI i + nI 1), .int (nI k), .int v4, .int (nI f)] [] m2 lk L lk L Q) : zE X d 160 203 [.ref 1000, .int (nI r), .int (nI i), .int (nI k), .int v4, .int (nI f)] [] m1 lk L lk L Q := by
  have w0 := wi.1
  have w1 := wi.2.2.1
  have w4 := wi.2.2.2.2.2.1
  have w11 := wi.at11 k hk
  have e1 : m1 (2000 + (nI r + nI 13 + nI k).toNatClampNeg) = nI (gi (13 + k)) := by rw [zw2 (by omega), show 2000 + (r + 13 + k) = 2000 + r + 13 + k by omega]; exact hb.at hk
  have e4 : m1 (2000 + (nI r + nI 4).toNatClampNeg) = nI (gi 4) := by rw [zw1 (by omega), show 2000 + (r + 4) = 2000 + r + 4 by omega]; exact hb.k 4 (by omega)
  have hf1 : f ≤ 1 := by rw [hf]; split <;> omega
  refine zE_do 60 203 (tbl := tX8_serves) zck_160 rfl (h := ?_)
  refine ⟨rfl, _, hw, rfl, _, hw, Or.inl rfl, zwi2 (by omega), rfl, _, hw, Or.inl rfl, zwi1 (by omega), fun c => ⟨rfl, _, hw, Or.inl rfl, zwi2 (by omega), rfl, zwi2 (by omega), ?_⟩, fun c => ⟨fun c2 => ⟨rfl, _, hw, Or.inl rfl, zwi2 (by omega), rfl, zwi2 (by omega), ?_⟩, fun c2 => ⟨rfl, zwi2 (by omega), ?_⟩⟩⟩
  · have c : ¬ m1 (2000 + (nI r + nI 13 + nI k).toNatClampNeg) = m1 (2000 + (nI r + nI 4).toNatClampNeg) := c
    rw [e1, e4, nEq (by omega) (by omega)] at c
    rw [if_neg (fun z => c z.1)] at q
    have := q m1 hb zfr.rf
    rw [← upd_self (m := m1) (x := 2000 + (nI r + nI 13 + nI k).toNatClampNeg) rfl] at this
    exact this
  · have c2 : nI f = 0 := c2
    rw [n0 (by omega), hf] at c2
    have hz : ¬ fits := fun z => by rw [if_pos z] at c2; omega
    rw [if_neg (fun z => hz z.2)] at q
    have := q m1 hb zfr.rf
    rw [← upd_self (m := m1) (x := 2000 + (nI r + nI 13 + nI k).toNatClampNeg) rfl] at this
    exact this
  · have c : m1 (2000 + (nI r + nI 13 + nI k).toNatClampNeg) = m1 (2000 + (nI r + nI 4).toNatClampNeg) := c
    rw [e1, e4, nEq (by omega) (by omega)] at c
    have c2 : ¬ nI f = 0 := c2
    rw [n0 (by omega), hf] at c2
    have hz : fits := Decidable.byContradiction fun z => by rw [if_neg z] at c2; omega
    rw [if_pos ⟨c, hz⟩] at q
    refine q _ (hb.set (13 + k) 10 (by omega) (by rw [zw2 (by omega)]; omega)) (zfr.up (by rw [zw2 (by omega)]; omega) (by rw [zw2 (by omega)]; omega))
theorem serves2_loop {ord : Nat → Nat} (hd : 2 < d) (hw : lk 1000 = some 2000) (hr : r + 43 ≤ 1247) {g0 : zH} (wf : zWF g0) (q : ∀ mem', zHB mem' (2000 + r) (ztakes ord g0 (g0 0)) → zfr mem mem' (2000 + r) → Q none mem') : ∀ n i m1 v3 v4 v5, i + n = g0 0 → zHB m1 (2000 + r) (ztakes ord g0 i) → zRk m1 (2000 + r) ord (g0 0) → zfr mem m1 (2000 + r) →
    zE X d 160 119 [.ref 1000, .int (nI r), .int (nI i), v3, v4, v5] [] m1 lk L lk L Q := by
  have w0 := wf.1
  intro n
  induction n with
  | zero =>
    intro i m1 v3 v4 v5 hi hb ho hf
    have n00 : ztakes ord g0 i 0 = g0 0 := ztakes_ne (by omega) (by omega) i
    have e0 : m1 (2000 + (nI r + nI 0).toNatClampNeg) = nI (g0 0) := by rw [zw1 (by omega), ← n00]; exact hb.k 0 (by omega)
    refine zE_do 40 119 (tbl := tX8_serves) zck_160 rfl (h := ?_)
    refine ⟨rfl, _, hw, Or.inl rfl, zwi1 (by omega), fun c => ⟨rfl, rfl, ?_⟩, fun c => ?_⟩
    · rw [show i = g0 0 by omega] at hb; exact q m1 hb hf
    · exfalso
      have c : ¬ m1 (2000 + (nI r + nI 0).toNatClampNeg) ≤ nI i := c
      rw [e0, nLe (by omega) (by omega)] at c
      omega
  | succ n ih =>
    intro i m1 v3 v4 v5 hi hb ho hf
    have n00 : ztakes ord g0 i 0 = g0 0 := ztakes_ne (by omega) (by omega) i
    have wi := ztakes_wf (ord := ord) wf i
    have hnext : ztakes ord g0 (i + 1) = ztake1 (ztakes ord g0 i) (ord i) := rfl
    have k := ih (i + 1)
    rw [hnext, ← nI_1] at k
    obtain ⟨o1, o2⟩ := ho i (by omega)
    generalize ztakes ord g0 i = gi at hb n00 wi k
    have e0 : m1 (2000 + (nI r + nI 0).toNatClampNeg) = nI (g0 0) := by rw [zw1 (by omega), ← n00]; exact hb.k 0 (by omega)
    have eo : m1 (2000 + (nI r + nI 37 + nI i).toNatClampNeg) = nI (ord i) := by rw [zw2 (by omega), show 2000 + (r + 37 + i) = 2000 + r + 37 + i by omega]; exact o1
    have e2 : m1 (2000 + (nI r + nI 2).toNatClampNeg) = nI (gi 2) := by rw [zw1 (by omega), show 2000 + (r + 2) = 2000 + r + 2 by omega]; exact hb.k 2 (by omega)
    have e3 : m1 (2000 + (nI r + nI 3).toNatClampNeg) = nI (gi 3) := by rw [zw1 (by omega), show 2000 + (r + 3) = 2000 + r + 3 by omega]; exact hb.k 3 (by omega)
    have e5 : m1 (2000 + (nI r + nI 25 + nI (ord i)).toNatClampNeg) = nI (gi (25 + ord i)) := by rw [zw2 (by omega), show 2000 + (r + 25 + ord i) = 2000 + r + 25 + ord i by omega]; exact hb.wt (by omega)
    have hlt : zbits gi 10 (gi 0) < 64 := Nat.lt_of_lt_of_le (zbits_lt gi 10 (gi 0) (by omega)) (show 2 ^ gi 0 ≤ 2 ^ 6 from Nat.pow_le_pow_right (by omega) (by omega))
    have hcl := zcnt_le gi 10 (gi 0)
    have hwl : zwts gi 10 25 (gi 0) ≤ gi 0 * 9 := zwts_le _ _ _ 9 _ (fun e he => (wi.2.2.2.2.2.2.2.2 e (by omega)).2.2.2.1.2)
    have hpc := zpc_bits gi 10 (gi 0) (by omega)
    have hsb := zsum_bits gi 10 25 (gi 0) (by omega) (gi 0) (Nat.le_refl _)
    obtain ⟨-, -, -, b4, -⟩ := wi.2.2.2.2.2.2.2.2 (ord i) (by omega)
    have w2 := wi.2.2.2.1
    have w3 := wi.2.2.2.2.1
    have key : ∀ (f : Nat) (v : Int32), (f = if (zcnt gi 10 (gi 0) < gi 2 ∧ zwts gi 10 25 (gi 0) + gi (25 + ord i) ≤ gi 3) then 1 else 0) → zE X d 160 203 [.ref 1000, .int (nI r), .int (nI i), .int (nI (ord i)), .int v, .int (nI f)] [] m1 lk L lk L Q := fun f v hfv => by
      refine serves_mid hfv hw hr hb wi (by omega) (fun m2 hb2 hf2 => ?_)
      have hz : (if gi (13 + ord i) = gi 4 ∧ (zcnt gi 10 (gi 0) < gi 2 ∧ zwts gi 10 25 (gi 0) + gi (25 + ord i) ≤ gi 3) then va_up gi (13 + ord i) 10 else gi) = ztake1 gi (ord i) := by
        unfold ztake1
        by_cases hc : gi (13 + ord i) = gi 4 ∧ (zcnt gi 10 (gi 0) < gi 2 ∧ zwts gi 10 25 (gi 0) + gi (25 + ord i) ≤ gi 3)
        · rw [if_pos hc, if_pos ⟨by omega, hc⟩]
        · rw [if_neg hc, if_neg (fun z => hc z.2)]
      rw [hz] at hb2
      exact k m2 _ _ _ (by omega) hb2 (ho.fr hf2) (hf.tr hf2)
    refine zgoc [203] 60 119 (tbl := tX8_serves) zck_160 rfl (h := ?_)
    refine ⟨rfl, _, hw, Or.inl rfl, zwi1 (by omega), fun c => ?_, fun c => ⟨rfl, _, hw, Or.inl rfl, zwi2 (by omega), ?_⟩⟩
    · exfalso
      have c : m1 (2000 + (nI r + nI 0).toNatClampNeg) ≤ nI i := c
      rw [e0, nLe (by omega) (by omega)] at c
      omega
    · rw [eo]
      refine ⟨rfl, ok_minsideOf (by omega) hw hr hb (by omega) wi.at11 (ok_ones (by omega) hlt ⟨rfl, _, hw, Or.inl rfl, zwi1 (by omega), fun c2 => ?_, fun c2 => ⟨rfl, ok_mweightOf (by omega) hw hr hb (by omega) hlt ⟨rfl, _, hw, Or.inl rfl, zwi2 (by omega), rfl, _, hw, Or.inl rfl, zwi1 (by omega), fun c3 => ?_, fun c3 => ?_⟩⟩⟩)⟩
      · have c2 : m1 (2000 + (nI r + nI 2).toNatClampNeg) ≤ nI (zpc (zbits gi 10 (gi 0))) := c2
        rw [e2, hpc, nLe (by omega) (by omega)] at c2
        exact key 0 _ (by rw [if_neg (by omega)])
      · have c3 : m1 (2000 + (nI r + nI 3).toNatClampNeg) < nI (zsum gi 25 (zbits gi 10 (gi 0)) (gi 0)) + m1 (2000 + (nI r + nI 25 + nI (ord i)).toNatClampNeg) := c3
        rw [e3, e5, hsb, nI_add, nLt (by omega) (by omega)] at c3
        exact key 0 _ (by rw [if_neg (by omega)])
      · have c2 : ¬ m1 (2000 + (nI r + nI 2).toNatClampNeg) ≤ nI (zpc (zbits gi 10 (gi 0))) := c2
        rw [e2, hpc, nLe (by omega) (by omega)] at c2
        have c3 : ¬ m1 (2000 + (nI r + nI 3).toNatClampNeg) < nI (zsum gi 25 (zbits gi 10 (gi 0)) (gi 0)) + m1 (2000 + (nI r + nI 25 + nI (ord i)).toNatClampNeg) := c3
        rw [e3, e5, hsb, nI_add, nLt (by omega) (by omega)] at c3
        exact key 1 _ (by rw [if_pos (by omega)])
theorem serves1_mid {i t : Nat} {v4 v5 : Value} {there : Prop} [Decidable there] (ht : t = if there then 1 else 0) (hw : lk 1000 = some 2000) (hr : r + 43 ≤ 1247) {m1 : zMem} {gi : zH} (hb : zHB m1 (2000 + r) gi) (wi : zWF gi) (hk : i < gi 0)
    (q : ∀ m2, zHB m2 (2000 + r) (if gi (19 + i) = gi 4 ∧ there then va_up gi (13 + i) 11 else gi) → zfr m1 m2 (2000 + r) → zE X d 160 2 [.ref 1000, .int (nI r), .int (nI i + nI 1), .int (nI t), v4, v5] [] m2 lk L lk L Q) : zE X d 160 58 [.ref 1000, .int (nI r), .int (nI i), .int (nI t), v4, v5] [] m1 lk L lk L Q := by
  have w0 := wi.1
  have w1 := wi.2.2.1
  have w4 := wi.2.2.2.2.2.1
  obtain ⟨-, -, b3, -, -⟩ := wi.2.2.2.2.2.2.2.2 i hk
  have e1 : m1 (2000 + (nI r + nI 19 + nI i).toNatClampNeg) = nI (gi (19 + i)) := by rw [zw2 (by omega), show 2000 + (r + 19 + i) = 2000 + r + 19 + i by omega]; exact hb.to hk
  have e4 : m1 (2000 + (nI r + nI 4).toNatClampNeg) = nI (gi 4) := by rw [zw1 (by omega), show 2000 + (r + 4) = 2000 + r + 4 by omega]; exact hb.k 4 (by omega)
  have hf1 : t ≤ 1 := by rw [ht]; split <;> omega
  refine zE_do 60 58 (tbl := tX8_serves) zck_160 rfl (h := ?_)
  refine ⟨rfl, _, hw, fun c => ⟨rfl, _, hw, Or.inl rfl, zwi2 (by omega), rfl, zwi2 (by omega), ?_⟩, fun c => ⟨rfl, _, hw, Or.inl rfl, zwi2 (by omega), rfl, _, hw, Or.inl rfl, zwi1 (by omega), fun c2 => ⟨rfl, _, hw, Or.inl rfl, zwi2 (by omega), rfl, zwi2 (by omega), ?_⟩, fun c2 => ⟨rfl, zwi2 (by omega), ?_⟩⟩⟩
  · have c : nI t = 0 := c
    rw [n0 (by omega), ht] at c
    have hz : ¬ there := fun z => by rw [if_pos z] at c; omega
    rw [if_neg (fun z => hz z.2)] at q
    have := q m1 hb zfr.rf
    rw [← upd_self (m := m1) (x := 2000 + (nI r + nI 13 + nI i).toNatClampNeg) rfl] at this
    exact this
  · have c2 : ¬ m1 (2000 + (nI r + nI 19 + nI i).toNatClampNeg) = m1 (2000 + (nI r + nI 4).toNatClampNeg) := c2
    rw [e1, e4, nEq (by omega) (by omega)] at c2
    rw [if_neg (fun z => c2 z.1)] at q
    have := q m1 hb zfr.rf
    rw [← upd_self (m := m1) (x := 2000 + (nI r + nI 13 + nI i).toNatClampNeg) rfl] at this
    exact this
  · have c : ¬ nI t = 0 := c
    rw [n0 (by omega), ht] at c
    have hz : there := Decidable.byContradiction fun z => by rw [if_neg z] at c; omega
    have c2 : m1 (2000 + (nI r + nI 19 + nI i).toNatClampNeg) = m1 (2000 + (nI r + nI 4).toNatClampNeg) := c2
    rw [e1, e4, nEq (by omega) (by omega)] at c2
    rw [if_pos ⟨c2, hz⟩] at q
    refine q _ (hb.set (13 + i) 11 (by omega) (by rw [zw2 (by omega)]; omega)) (zfr.up (by rw [zw2 (by omega)]; omega) (by rw [zw2 (by omega)]; omega))
theorem serves1_loop {ord : Nat → Nat} (hd : 2 < d) (hw : lk 1000 = some 2000) (hr : r + 43 ≤ 1247) {g0 : zH} (wf : zWF g0) (q : ∀ mem', zHB mem' (2000 + r) (ztakes ord (zlets g0 (g0 0)) (g0 0)) → zfr mem mem' (2000 + r) → Q none mem') : ∀ n i m1 v3 v4 v5, i + n = g0 0 → zHB m1 (2000 + r) (zlets g0 i) → zRk m1 (2000 + r) ord (g0 0) → zfr mem m1 (2000 + r) →
    zE X d 160 2 [.ref 1000, .int (nI r), .int (nI i), v3, v4, v5] [] m1 lk L lk L Q := by
  have w0 := wf.1
  intro n
  induction n with
  | zero =>
    intro i m1 v3 v4 v5 hi hb ho hf
    have n00 : zlets g0 i 0 = g0 0 := zlets_ne (by omega) i (by omega)
    have e0 : m1 (2000 + (nI r + nI 0).toNatClampNeg) = nI (g0 0) := by rw [zw1 (by omega), ← n00]; exact hb.k 0 (by omega)
    refine zE_do 40 2 (tbl := tX8_serves) zck_160 rfl (h := ?_)
    refine ⟨rfl, _, hw, Or.inl rfl, zwi1 (by omega), fun c => ?_, fun c => ?_⟩
    · rw [show i = g0 0 by omega] at hb n00
      have k := serves2_loop (X := X) (d := d) (mem := mem) (lk := lk) (L := L) (Q := Q) (r := r) (ord := ord) hd hw hr (zlets_wf wf (g0 0) w0) (by rw [n00]; exact q) (g0 0) 0 m1 v3 v4 v5 (by omega) hb (by rw [n00]; exact ho) hf
      exact k
    · exfalso
      have c : ¬ m1 (2000 + (nI r + nI 0).toNatClampNeg) ≤ nI i := c
      rw [e0, nLe (by omega) (by omega)] at c
      omega
  | succ n ih =>
    intro i m1 v3 v4 v5 hi hb ho hf
    have n00 : zlets g0 i 0 = g0 0 := zlets_ne (by omega) i (by omega)
    have wi := zlets_wf wf i (by omega)
    have hnext : zlets g0 (i + 1) = zlet1 (zlets g0 i) i := rfl
    have k := ih (i + 1)
    rw [hnext, ← nI_1] at k
    generalize zlets g0 i = gi at hb n00 wi k
    have w1 := wi.2.2.1
    have w4 := wi.2.2.2.2.2.1
    have w11 := wi.at11 i (by omega)
    have e0 : m1 (2000 + (nI r + nI 0).toNatClampNeg) = nI (g0 0) := by rw [zw1 (by omega), ← n00]; exact hb.k 0 (by omega)
    have e1 : m1 (2000 + (nI r + nI 13 + nI i).toNatClampNeg) = nI (gi (13 + i)) := by rw [zw2 (by omega), show 2000 + (r + 13 + i) = 2000 + r + 13 + i by omega]; exact hb.at (by omega)
    have e4 : m1 (2000 + (nI r + nI 4).toNatClampNeg) = nI (gi 4) := by rw [zw1 (by omega), show 2000 + (r + 4) = 2000 + r + 4 by omega]; exact hb.k 4 (by omega)
    have key : ∀ t : Nat, (t = if (gi (13 + i) = 10 ∨ gi (13 + i) = gi 4) then 1 else 0) → zE X d 160 58 [.ref 1000, .int (nI r), .int (nI i), .int (nI t), v4, v5] [] m1 lk L lk L Q := fun t ht =>
      serves1_mid ht hw hr hb wi (by omega) (fun m2 hb2 hf2 => k m2 _ _ _ (by omega) hb2 (ho.fr hf2) (hf.tr hf2))
    refine zgoc [58] 60 2 (tbl := tX8_serves) zck_160 rfl (h := ?_)
    refine ⟨rfl, _, hw, Or.inl rfl, zwi1 (by omega), fun c => ?_, fun c => ⟨rfl, _, hw, Or.inl rfl, zwi2 (by omega), fun c2 => ?_, fun c2 => ⟨rfl, _, hw, Or.inl rfl, zwi2 (by omega), rfl, _, hw, Or.inl rfl, zwi1 (by omega), fun c3 => ?_, fun c3 => ?_⟩⟩⟩
    · exfalso
      have c : m1 (2000 + (nI r + nI 0).toNatClampNeg) ≤ nI i := c
      rw [e0, nLe (by omega) (by omega)] at c
      omega
    · have c2 : m1 (2000 + (nI r + nI 13 + nI i).toNatClampNeg) = nI 10 := c2
      rw [e1, nEq (by omega) (by omega)] at c2
      exact key 1 (by rw [if_pos (Or.inl c2)])
    · have c2 : ¬ m1 (2000 + (nI r + nI 13 + nI i).toNatClampNeg) = nI 10 := c2
      have c3 : ¬ m1 (2000 + (nI r + nI 13 + nI i).toNatClampNeg) = m1 (2000 + (nI r + nI 4).toNatClampNeg) := c3
      rw [e1, nEq (by omega) (by omega)] at c2
      rw [e1, e4, nEq (by omega) (by omega)] at c3
      exact key 0 (by rw [if_neg (fun z => z.elim c2 c3)])
    · have c3 : m1 (2000 + (nI r + nI 13 + nI i).toNatClampNeg) = m1 (2000 + (nI r + nI 4).toNatClampNeg) := c3
      rw [e1, e4, nEq (by omega) (by omega)] at c3
      exact key 1 (by rw [if_pos (Or.inr c3)])
theorem ok_mserves {ord : Nat → Nat} (hd : 2 < d) (hw : lk 1000 = some 2000) (hr : r + 43 ≤ 1247) (hb : zHB mem (2000 + r) g) (wf : zWF g) (ho : zRk mem (2000 + r) ord (g 0)) (q : ∀ mem', zHB mem' (2000 + r) (ztakes ord (zlets g (g 0)) (g 0)) → zfr mem mem' (2000 + r) → Q none mem') : zOk X d 160 [.ref 1000, .int (nI r)] mem lk L lk L Q := by
  refine zOk_do 20 (tbl := tX8_serves) zck_160 rfl (by omega) (h := ?_)
  exact serves1_loop hd hw hr wf q (g 0) 0 mem _ _ _ (by omega) hb ho zfr.rf
end MP
