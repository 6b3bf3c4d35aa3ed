/-! DishLift$House: takeIn, called, goOn, pass -/
def zbc1 (x : Int32) : Int32 := x - ((x.toUInt32 >>> ((nI 1).toUInt32 &&& Int32.toUInt32 31)).toInt32 &&& nI 1431655765)
def zbc2 (x : Int32) : Int32 := (x &&& nI 858993459) + ((x.toUInt32 >>> ((nI 2).toUInt32 &&& Int32.toUInt32 31)).toInt32 &&& nI 858993459)
def zbc3 (x : Int32) : Int32 := (x + (x.toUInt32 >>> ((nI 4).toUInt32 &&& Int32.toUInt32 31)).toInt32) &&& nI 252645135
def zbc4 (x : Int32) : Int32 := x + (x.toUInt32 >>> ((nI 8).toUInt32 &&& Int32.toUInt32 31)).toInt32
def zbc5 (x : Int32) : Int32 := (x + (x.toUInt32 >>> ((nI 16).toUInt32 &&& Int32.toUInt32 31)).toInt32) &&& nI 63
theorem zbc_t : ∀ b, b < 64 → zbc5 (zbc4 (zbc3 (zbc2 (zbc1 (nI b))))) = nI (zpc b) := by decide +kernel
theorem zsub1 (a b : Nat) : nI a - nI b + -(nI 1) = nI a - nI (b + 1) := by
  rw [show nI (b + 1) = nI b + nI 1 from (nI_add b 1).symm]
  generalize nI a = x
  generalize nI b = z
  generalize nI 1 = w
  simp only [Int32.sub_eq_add_neg, Int32.neg_add, Int32.add_assoc]
section HP
variable {X d : Nat} {mem : zMem} {lk : zLk} {L : List Nat} {Q : Option Value → zMem → Prop} {h : Nat} {g : zH}
theorem ok_bitCount {b : Nat} (hd : 0 < d) (hb : b < 64) (q : Q (some (.int (nI (zpc b)))) mem) : zOk X d 221 [.int (nI b)] mem lk L lk L Q := by
  refine zOk_do 60 (tbl := tJ6_bitCount_0f7a4) zck_221 rfl (by omega) (h := ?_)
  refine ⟨rfl, rfl, ?_⟩
  show Q (some (.int (zbc5 (zbc4 (zbc3 (zbc2 (zbc1 (nI b)))))))) mem
  rw [zbc_t b hb]; exact q
/-- an order of rank: six numbers of an array -/
def zOrd (X : Nat) (mem : zMem) (o : Nat) (ord : Nat → Nat) (h : Nat) : Prop := (kd o = 9 ∨ kd o = 13) ∧ ln X o = 6 ∧ (∀ k, k < 6 → mem (o + k) = nI (ord k) ∧ ord k < 6) ∧ (o + 6 ≤ h ∨ h + 37 ≤ o)
theorem zOrd.fr {mem mem' : zMem} {o : Nat} {ord : Nat → Nat} (hz : zOrd X mem o ord h) (hf : zfr mem mem' h) : zOrd X mem' o ord h :=
  ⟨hz.1, hz.2.1, fun k hk => by rw [hf _ (by have := hz.2.2.2; omega)]; exact hz.2.2.1 k hk, hz.2.2.2⟩
theorem zfree_le {a b : Nat} (ha : a < 1000) (hb : b < 1000) : nI a - nI b ≤ 0 ↔ a ≤ b := by
  rw [i_le, i_0, pk_sub_toInt (by omega) (by omega)]; omega
theorem takeIn_loop {o : Nat} {ord : Nat → Nat} (hd : 1 < d) (hh : zHo lk h) {g0 : zH} (wf : zWF g0) (q : ∀ mem', zHB mem' h (ztakes ord g0 (g0 0)) → zfr mem mem' h → Q none mem') : ∀ n i m1 v2 v6, i + n = g0 0 → zHB m1 h (ztakes ord g0 i) → zOrd X m1 o ord h → zfr mem m1 h →
    zE X d 57 27 [.ref h, .ref o, .int v2, .int (nI (zwts (ztakes ord g0 i) 10 25 (g0 0))), .int (nI (g0 2) - nI (zcnt (ztakes ord g0 i) 10 (g0 0))), .int (nI i), v6] [] m1 lk L lk L Q := by
  have w0 := wf.1
  intro n
  induction n with
  | zero =>
    intro i m1 v2 v6 hi hb ho hf
    have n0 : ztakes ord g0 i 0 = g0 0 := ztakes_ne (by omega) (by omega) i
    refine zE_do 40 27 (tbl := tX3_takeIn) zck_57 rfl (h := ?_)
    refine ⟨hh.k3, fun c => ⟨rfl, rfl, ?_⟩, fun c => ?_⟩
    · rw [show i = g0 0 by omega] at hb; exact q m1 hb hf
    · exfalso
      have c : ¬ m1 (h + 0) ≤ nI i := c
      rw [hb.k 0 (by omega), n0, nLe (by omega) (by omega)] at c
      omega
  | succ n ih =>
    intro i m1 v2 v6 hi hb ho hf
    have n0 : ztakes ord g0 i 0 = g0 0 := ztakes_ne (by omega) (by omega) i
    have n2 : ztakes ord g0 i 2 = g0 2 := ztakes_ne (by omega) (by omega) i
    have wi := ztakes_wf (ord := ord) wf i
    have hfull := fun hx => ztakes_full (ord := ord) (g := g0) (i := i) w0 hx (n + 1)
    have hcl := zcnt_le (ztakes ord g0 i) 10 (g0 0)
    have hwl : zwts (ztakes ord g0 i) 10 25 (g0 0) ≤ g0 0 * 9 := zwts_le _ _ _ 9 _ (fun e he => (wi.2.2.2.2.2.2.2.2 e (by omega)).2.2.2.1.2)
    have hnext : ztakes ord g0 (i + 1) = ztake1 (ztakes ord g0 i) (ord i) := rfl
    have k := ih (i + 1)
    rw [hnext, ← nI_1] at k
    obtain ⟨o1, o2⟩ := ho.2.2.1 i (by omega)
    generalize ztakes ord g0 i = gi at hb n0 n2 wi hfull hcl hwl k
    have w2 := wf.2.2.2.1
    have hkc : (kd o = 9 ∨ kd o = 13) := ho.1
    have hin : vp_in (nI i) (ln X o) := by rw [ho.2.1]; exact vp_in_nI (by omega) (by decide)
    have eo : m1 (o + (nI i).toNatClampNeg) = nI (ord i) := by rw [nC (by omega)]; exact o1
    have w1 := wi.2.2.1
    have w4 := wi.2.2.2.2.2.1
    have e4 : m1 (h + 4) = nI (gi 4) := hb.k 4 (by omega)
    have e3 : m1 (h + 3) = nI (gi 3) := hb.k 3 (by omega)
    have w3 := wi.2.2.2.2.1
    refine zE_do 60 27 (tbl := tX3_takeIn) zck_57 rfl (h := ?_)
    refine ⟨hh.k3, fun c => ?_, fun c => ⟨by rcases hkc with z | z <;> rw [z] <;> omega, fun c2 => ?_, fun c2 => ⟨fun c3 => ⟨rfl, rfl, ?_⟩, fun c3 => ⟨hkc, hin, by rw [hh.k3]; rfl, ?_⟩⟩⟩⟩
    · exfalso
      have c : m1 (h + 0) ≤ nI i := c
      rw [hb.k 0 (by omega), n0, nLe (by omega) (by omega)] at c
      omega
    · exfalso
      have c2 : nI (ln X o) ≤ nI i := c2
      rw [ho.2.1, nLe (by omega) (by omega)] at c2
      omega
    · have c3 : nI (g0 2) - nI (zcnt gi 10 (g0 0)) ≤ 0 := c3
      rw [zfree_le (by omega) (by omega)] at c3
      refine q m1 ?_ hf
      have := hfull (by omega)
      rw [show i + (n + 1) = g0 0 by omega] at this
      rw [this]; exact hb
    · have c3 : ¬ nI (g0 2) - nI (zcnt gi 10 (g0 0)) ≤ 0 := c3
      rw [zfree_le (by omega) (by omega)] at c3
      show zOk X (d - 1) 45 [.ref h, .int (m1 (o + (nI i).toNatClampNeg))] m1 lk L lk L _
      rw [eo]
      refine ok_isDish (by omega) hh hb (by omega) (fun e he hx => zT_eq ?_) (fun hx => zF_eq ?_)
      · have hee : e = ord i := by rw [nEq (by omega) (by omega)] at hx; omega
        subst hee
        obtain ⟨-, b2, b3, b4, -⟩ := wi.2.2.2.2.2.2.2.2 (ord i) he
        have e1 : m1 (h + (7 + 6 * 1) + (nI (ord i)).toNatClampNeg) = nI (gi (13 + ord i)) := by rw [nC (by omega)]; exact hb.at he
        have e5 : m1 (h + (7 + 6 * 3) + (nI (ord i)).toNatClampNeg) = nI (gi (25 + ord i)) := by rw [nC (by omega)]; exact hb.wt he
        refine ⟨hh.k3, _, hh.lk 1 (by omega), Or.inl (hh.ka 1 (by omega)), hh.inn (by omega), hh.k3, fun c5 => ?_, fun c5 => ⟨hh.k3, _, hh.lk 3 (by omega), Or.inl (hh.ka 3 (by omega)), hh.inn (by omega), hh.k3, fun c6 => ?_, fun c6 => ⟨hh.k3, _, hh.lk 1 (by omega), hh.ka 1 (by omega), hh.inn (by omega), hh.k3, _, hh.lk 3 (by omega), Or.inl (hh.ka 3 (by omega)), hh.inn (by omega), ?_⟩⟩⟩
        · have c5 : ¬ m1 (h + (7 + 6 * 1) + (nI (ord i)).toNatClampNeg) = m1 (h + 4) := c5
          rw [e1, e4, nEq (by omega) (by omega)] at c5
          have hz : ztake1 gi (ord i) = gi := by unfold ztake1; rw [if_neg (fun z => c5 z.2.1)]
          rw [hz] at k
          exact k m1 v2 _ (by omega) hb ho hf
        · have c6 : m1 (h + 3) < nI (zwts gi 10 25 (g0 0)) + m1 (h + (7 + 6 * 3) + (nI (ord i)).toNatClampNeg) := c6
          rw [e3, e5, nI_add, nLt (by omega) (by omega)] at c6
          have hz : ztake1 gi (ord i) = gi := by unfold ztake1; rw [n0, if_neg (fun z => by have := z.2.2.2; omega)]
          rw [hz] at k
          exact k m1 v2 _ (by omega) hb ho hf
        · have c5 : m1 (h + (7 + 6 * 1) + (nI (ord i)).toNatClampNeg) = m1 (h + 4) := c5
          rw [e1, e4, nEq (by omega) (by omega)] at c5
          have c6 : ¬ m1 (h + 3) < nI (zwts gi 10 25 (g0 0)) + m1 (h + (7 + 6 * 3) + (nI (ord i)).toNatClampNeg) := c6
          rw [e3, e5, nI_add, nLt (by omega) (by omega)] at c6
          have hz : ztake1 gi (ord i) = va_up gi (13 + ord i) 10 := by unfold ztake1; rw [n0, n2, if_pos ⟨by omega, c5, by omega, by omega⟩]
          have h10 : gi (13 + ord i) ≠ 10 := by omega
          rw [hz, zcnt_up h10, zwts_up h10 (by omega) (by omega), if_pos ⟨by omega, rfl⟩, if_pos ⟨by omega, rfl⟩, ← zsub1, ← nI_add] at k
          have hfu := zfr.up (mem := m1) (b := h) (x := h + (7 + 6 * 1) + (nI (ord i)).toNatClampNeg) (v := nI 10) (by omega) (by rw [nC (by omega)]; omega)
          have hb2 := hb.set (13 + ord i) 10 (by omega) (x := h + (7 + 6 * 1) + (nI (ord i)).toNatClampNeg) (by rw [nC (by omega)]; omega)
          have e6 : upd m1 (h + (7 + 6 * 1) + (nI (ord i)).toNatClampNeg) (nI 10) (h + (7 + 6 * 3) + (nI (ord i)).toNatClampNeg) = nI (gi (25 + ord i)) := by rw [upd_ne (by omega)]; exact e5
          rw [← e6] at k
          exact k _ v2 _ (by omega) hb2 (ho.fr hfu) (hf.tr hfu)
      · have hz : ztake1 gi (ord i) = gi := by
          unfold ztake1
          rw [if_neg (fun z => by have := z.1; rw [nT (by omega)] at hx; omega)]
        rw [hz] at k
        exact k m1 v2 _ (by omega) hb ho hf
theorem ok_takeIn {o : Nat} {ord : Nat → Nat} (hd : 1 < d) (hh : zHo lk h) (hb : zHB mem h g) (wf : zWF g) (ho : zOrd X mem o ord h) (q : ∀ mem', zHB mem' h (ztakes ord g (g 0)) → zfr mem mem' h → Q none mem') : zOk X d 57 [.ref h, .ref o] mem lk L lk L Q := by
  have w0 := wf.1
  have hlt : zbits g 10 (g 0) < 64 := Nat.lt_of_lt_of_le (zbits_lt g 10 (g 0) (by omega)) (show 2 ^ g 0 ≤ 2 ^ 6 from Nat.pow_le_pow_right (by omega) w0)
  refine zOk_do 40 (tbl := tX3_takeIn) zck_57 rfl (by omega) (h := ?_)
  refine ⟨by rw [hh.k3]; rfl, ok_those (by omega) hh hb w0 wf.at11 (by omega) ⟨by rw [hh.k3]; rfl, ok_weightOf (by omega) hh hb wf hlt ⟨hh.k3, ok_bitCount (by omega) hlt ?_⟩⟩⟩
  have k := takeIn_loop (L := L) (o := o) (ord := ord) hd hh wf q (g 0) 0 mem (nI (zbits g 10 (g 0))) zU (by omega) hb ho zfr.rf
  rw [show ztakes ord g 0 = g from rfl, ← zpc_bits g 10 (g 0) w0, ← zsum_bits g 10 25 (g 0) (by omega) (g 0) (Nat.le_refl _), ← hb.k 2 (by omega)] at k
  exact k
theorem called_loop (hh : zHo lk h) (hb : zHB mem h g) (wf : zWF g) (q : Q (some (.int (nI (zcalled g)))) mem) : ∀ n i, i + n = g 0 → zE X d 58 4 [.ref h, .int (nI (zcal g i)), .int (nI i)] [] mem lk L lk L Q := by
  have w0 := wf.1
  have w1 := wf.2.2.1
  have w4 := wf.2.2.2.2.2.1
  have w3 := wf.2.2.2.2.1
  intro n
  induction n with
  | zero =>
    intro i hi
    refine zE_do 60 4 (tbl := tX3_called) zck_58 rfl (h := ?_)
    refine ⟨hh.k3, fun c => ⟨hh.k3, rfl, rfl, ?_⟩, fun c => ?_⟩
    · rw [show i = g 0 by omega]
      show Q (some (.int (nI (zcal g (g 0)) &&& (nI 1 <<< (mem (h + 4) &&& 31) ^^^ -(nI 1))))) mem
      rw [hb.k 4 (by omega), zdel_t _ (by omega) _ (zcal_lt wf _ (Nat.le_refl _))]
      exact q
    · exfalso
      have c : ¬ mem (h + 0) ≤ nI i := c
      rw [hb.k 0 (by omega), nLe (by omega) (by omega)] at c
      omega
  | succ n ih =>
    intro i hi
    have hie : i < g 0 := by omega
    obtain ⟨-, b2, b3, b4, -⟩ := wf.2.2.2.2.2.2.2.2 i hie
    have k := ih (i + 1) (by omega)
    rw [← nI_1] at k
    have e3 : mem (h + 3) = nI (g 3) := hb.k 3 (by omega)
    have e1 : mem (h + (7 + 6 * 1) + (nI i).toNatClampNeg) = nI (g (13 + i)) := by rw [nC (by omega)]; exact hb.at hie
    have e2 : mem (h + (7 + 6 * 2) + (nI i).toNatClampNeg) = nI (g (19 + i)) := by rw [nC (by omega)]; exact hb.to hie
    have e5 : mem (h + (7 + 6 * 3) + (nI i).toNatClampNeg) = nI (g (25 + i)) := by rw [nC (by omega)]; exact hb.wt hie
    have hlt := zcal_lt wf i (by omega)
    refine zE_do 60 4 (tbl := tX3_called) zck_58 rfl (h := ?_)
    refine ⟨hh.k3, fun c => ?_, fun c => ⟨hh.k3, _, hh.lk 1 (by omega), Or.inl (hh.ka 1 (by omega)), hh.inn (by omega), fun c2 => ⟨hh.k3, _, hh.lk 1 (by omega), Or.inl (hh.ka 1 (by omega)), hh.inn (by omega), fun c3 => ?_, fun c3 => ⟨hh.k3, _, hh.lk 3 (by omega), Or.inl (hh.ka 3 (by omega)), hh.inn (by omega), hh.k3, fun c4 => ?_, fun c4 => ⟨hh.k3, _, hh.lk 1 (by omega), Or.inl (hh.ka 1 (by omega)), hh.inn (by omega), ?_⟩⟩⟩, fun c2 => ⟨hh.k3, _, hh.lk 2 (by omega), Or.inl (hh.ka 2 (by omega)), hh.inn (by omega), ?_⟩⟩⟩
    · exfalso
      have c : mem (h + 0) ≤ nI i := c
      rw [hb.k 0 (by omega), nLe (by omega) (by omega)] at c
      omega
    · have c2 : ¬ mem (h + (7 + 6 * 1) + (nI i).toNatClampNeg) = nI 10 := c2
      have c3 : mem (h + (7 + 6 * 1) + (nI i).toNatClampNeg) = nI 11 := c3
      rw [e1, nEq (by omega) (by omega)] at c2 c3
      rw [show zcal g (i + 1) = zcal g i by rw [zcal, if_neg c2, if_neg (fun z => z.1 c3)]] at k
      exact k
    · have c2 : ¬ mem (h + (7 + 6 * 1) + (nI i).toNatClampNeg) = nI 10 := c2
      rw [e1, nEq (by omega) (by omega)] at c2
      have c4 : mem (h + 3) < mem (h + (7 + 6 * 3) + (nI i).toNatClampNeg) := c4
      rw [e3, e5, nLt (by omega) (by omega)] at c4
      rw [show zcal g (i + 1) = zcal g i by rw [zcal, if_neg c2, if_neg (fun z => by have := z.2; omega)]] at k
      exact k
    · have c2 : ¬ mem (h + (7 + 6 * 1) + (nI i).toNatClampNeg) = nI 10 := c2
      have c3 : ¬ mem (h + (7 + 6 * 1) + (nI i).toNatClampNeg) = nI 11 := c3
      rw [e1, nEq (by omega) (by omega)] at c2 c3
      have c4 : ¬ mem (h + 3) < mem (h + (7 + 6 * 3) + (nI i).toNatClampNeg) := c4
      rw [e3, e5, nLt (by omega) (by omega)] at c4
      rw [show zcal g (i + 1) = zcal g i ||| 2 ^ g (13 + i) by rw [zcal, if_neg c2, if_pos ⟨c3, by omega⟩], ← zor_t (g (13 + i)) (by omega) _ hlt, ← e1] at k
      exact k
    · have c2 : mem (h + (7 + 6 * 1) + (nI i).toNatClampNeg) = nI 10 := c2
      rw [e1, nEq (by omega) (by omega)] at c2
      rw [show zcal g (i + 1) = zcal g i ||| 2 ^ g (19 + i) by rw [zcal, if_pos c2], ← zor_t (g (19 + i)) (by omega) _ hlt, ← e2] at k
      exact k
theorem ok_called (hd : 0 < d) (hh : zHo lk h) (hb : zHB mem h g) (wf : zWF g) (q : Q (some (.int (nI (zcalled g)))) mem) : zOk X d 58 [.ref h] mem lk L lk L Q := by
  refine zOk_do 20 (tbl := tX3_called) zck_58 rfl (by omega) (h := ?_)
  exact called_loop hh hb wf q (g 0) 0 (by omega)
end HP
