/-! DishLift$House: a minute -/
section HP
variable {X d : Nat} {mem : zMem} {lk : zLk} {L : List Nat} {Q : Option Value → zMem → Prop} {h : Nat} {g : zH}
theorem ok_cool {e : Nat} (hd : 0 < d) (hh : zHo lk h) (hb : zHB mem h g) (wf : zWF g) (he : e < g 0) (q : ∀ mem', zHB mem' h (zcool g e) → zfr mem mem' h → Q none mem') : zOk X d 61 [.ref h, .int (nI e)] mem lk L lk L Q := by
  have w0 := wf.1
  have w5 := (wf.2.2.2.2.2.2.2.2 e he).2.2.2.2
  have e1 : mem (h + (7 + 6 * 4) + (nI e).toNatClampNeg) = nI (g (31 + e)) := by rw [nC (by omega)]; exact hb.ht he
  refine zOk_do 30 (tbl := tX3_cool) zck_61 rfl (by omega) (h := ?_)
  refine ⟨hh.k3, _, hh.lk 4 (by omega), Or.inl (hh.ka 4 (by omega)), hh.inn (by omega), fun c => ⟨rfl, rfl, ?_⟩, fun c => ⟨hh.k3, _, hh.lk 4 (by omega), Or.inl (hh.ka 4 (by omega)), hh.inn (by omega), hh.ka 4 (by omega), hh.inn (by omega), rfl, rfl, ?_⟩⟩
  · have c : mem (h + (7 + 6 * 4) + (nI e).toNatClampNeg) ≤ 0 := c
    rw [e1, show (0 : Int32) = nI 0 from rfl, nLe (by omega) (by omega)] at c
    refine q mem ?_ zfr.rf
    have : zcool g e = g := zup_self (by omega)
    rw [this]; exact hb
  · have c : ¬ mem (h + (7 + 6 * 4) + (nI e).toNatClampNeg) ≤ 0 := c
    rw [e1, show (0 : Int32) = nI 0 from rfl, nLe (by omega) (by omega)] at c
    show Q none (upd mem (h + (7 + 6 * 4) + (nI e).toNatClampNeg) (mem (h + (7 + 6 * 4) + (nI e).toNatClampNeg) - nI 1))
    rw [e1, nC (by omega), pk_sub (by omega)]
    exact q _ (hb.set (31 + e) _ (by omega) (by omega)) (zfr.up (by omega) (by omega))
theorem ok_warm {e : Nat} (hd : 0 < d) (hh : zHo lk h) (hb : zHB mem h g) (wf : zWF g) (he : e < g 0) (q : ∀ mem', zHB mem' h (zwarm g e) → zfr mem mem' h → Q none mem') : zOk X d 62 [.ref h, .int (nI e)] mem lk L lk L Q := by
  have w0 := wf.1
  have w5 := (wf.2.2.2.2.2.2.2.2 e he).2.2.2.2
  have e1 : mem (h + (7 + 6 * 4) + (nI e).toNatClampNeg) = nI (g (31 + e)) := by rw [nC (by omega)]; exact hb.ht he
  refine zOk_do 30 (tbl := tX3_warm) zck_62 rfl (by omega) (h := ?_)
  refine ⟨hh.k3, _, hh.lk 4 (by omega), Or.inl (hh.ka 4 (by omega)), hh.inn (by omega), fun c => ⟨rfl, rfl, ?_⟩, fun c => ⟨hh.k3, _, hh.lk 4 (by omega), Or.inl (hh.ka 4 (by omega)), hh.inn (by omega), hh.ka 4 (by omega), hh.inn (by omega), rfl, rfl, ?_⟩⟩
  · have c : nI 60 ≤ mem (h + (7 + 6 * 4) + (nI e).toNatClampNeg) := c
    rw [e1, nLe (by omega) (by omega)] at c
    refine q mem ?_ zfr.rf
    have : zwarm g e = g := zup_self (by rw [if_neg (by omega)])
    rw [this]; exact hb
  · have c : ¬ nI 60 ≤ mem (h + (7 + 6 * 4) + (nI e).toNatClampNeg) := c
    rw [e1, nLe (by omega) (by omega)] at c
    show Q none (upd mem (h + (7 + 6 * 4) + (nI e).toNatClampNeg) (mem (h + (7 + 6 * 4) + (nI e).toNatClampNeg) + nI 1))
    rw [e1, nC (by omega), nI_add]
    have : zwarm g e = va_up g (31 + e) (g (31 + e) + 1) := by unfold zwarm; rw [if_pos (by omega)]
    refine q _ ?_ (zfr.up (by omega) (by omega))
    rw [this]
    exact hb.set (31 + e) _ (by omega) (by omega)
theorem ok_lose {e : Nat} (hd : 0 < d) (hh : zHo lk h) (hb : zHB mem h g) (wf : zWF g) (he : e < g 0) (q : ∀ mem', zHB mem' h (zlose g e) → zfr mem mem' h → Q none mem') : zOk X d 63 [.ref h, .int (nI e)] mem lk L lk L Q := by
  have w0 := wf.1
  have w5 := (wf.2.2.2.2.2.2.2.2 e he).2.2.2.1
  have e1 : mem (h + (7 + 6 * 3) + (nI e).toNatClampNeg) = nI (g (25 + e)) := by rw [nC (by omega)]; exact hb.wt he
  refine zOk_do 30 (tbl := tX3_lose) zck_63 rfl (by omega) (h := ?_)
  refine ⟨hh.k3, _, hh.lk 3 (by omega), Or.inl (hh.ka 3 (by omega)), hh.inn (by omega), fun c => ⟨rfl, rfl, ?_⟩, fun c => ⟨hh.k3, _, hh.lk 3 (by omega), Or.inl (hh.ka 3 (by omega)), hh.inn (by omega), hh.ka 3 (by omega), hh.inn (by omega), rfl, rfl, ?_⟩⟩
  · have c : mem (h + (7 + 6 * 3) + (nI e).toNatClampNeg) ≤ nI 1 := c
    rw [e1, nLe (by omega) (by omega)] at c
    refine q mem ?_ zfr.rf
    have : zlose g e = g := zup_self (by rw [if_neg (by omega)])
    rw [this]; exact hb
  · have c : ¬ mem (h + (7 + 6 * 3) + (nI e).toNatClampNeg) ≤ nI 1 := c
    rw [e1, nLe (by omega) (by omega)] at c
    show Q none (upd mem (h + (7 + 6 * 3) + (nI e).toNatClampNeg) (mem (h + (7 + 6 * 3) + (nI e).toNatClampNeg) - nI 1))
    rw [e1, nC (by omega), pk_sub (by omega)]
    have : zlose g e = va_up g (25 + e) (g (25 + e) - 1) := by unfold zlose; rw [if_pos (by omega)]
    refine q _ ?_ (zfr.up (by omega) (by omega))
    rw [this]
    exact hb.set (25 + e) _ (by omega) (by omega)
theorem zodd {n : Nat} (h : n < 2147483648) : nI n - nI n / nI 2 * nI 2 = nI (n % 2) := pk_rem h (by omega) (by omega)
theorem ok_age {e : Nat} {sh : Prop} [Decidable sh] {v : Nat} (hv : v = if sh then 1 else 0) (hd : 1 < d) (hh : zHo lk h) (hb : zHB mem h g) (wf : zWF g) (he : e < g 0) (q : ∀ mem', zHB mem' h (zage g e sh) → zfr mem mem' h → Q none mem') : zOk X d 60 [.ref h, .int (nI e), .int (nI v)] mem lk L lk L Q := by
  have w0 := wf.1
  obtain ⟨w1, -, -, w4, w5⟩ := wf.2.2.2.2.2.2.2.2 e he
  have w6 := wf.2.2.2.2.2.2.2.1
  have e1 : mem (h + (7 + 6 * 0) + (nI e).toNatClampNeg) = nI (g (7 + e)) := by rw [nC (by omega)]; exact hb.kind he
  have hcl := zcool_wf wf he
  have hwm := zwarm_wf wf he
  have hk3 : (zmF 61)[7]? = some (kd h) := by rw [hh.k3]; rfl
  refine zOk_do 40 (tbl := tX3_age) zck_60 rfl (by omega) (h := ?_)
  refine ⟨hh.k3, _, hh.lk 0 (by omega), Or.inl (hh.ka 0 (by omega)), hh.inn (by omega), ?_⟩
  refine ⟨fun c => ?_, fun c => ⟨fun c2 => ?_, fun c2 => ⟨fun c3 => ?_, fun c3 => ⟨fun c4 => ?_, fun c4 => ?_⟩⟩⟩⟩
  · have c : mem (h + (7 + 6 * 0) + (nI e).toNatClampNeg) = nI 2 := c
    rw [e1, nEq (by omega) (by omega)] at c
    refine ⟨by rw [hh.k3]; rfl, ok_cool (by omega) hh hb wf he (fun m1 hb1 hf1 => ⟨fun c5 => ⟨rfl, rfl, ?_⟩, fun c5 => ⟨by rw [hh.k3]; rfl, ok_lose (by omega) hh hb1 hcl (by rw [zcool_ne (by omega)]; exact he) (fun m2 hb2 hf2 => ⟨rfl, rfl, ?_⟩)⟩⟩)⟩
    · have c5 : nI v = 0 := c5
      rw [n0 (by rw [hv]; split <;> omega), hv] at c5
      have hs : ¬ sh := fun z => by rw [if_pos z] at c5; omega
      have hz : zage g e sh = zcool g e := by unfold zage; rw [if_pos c, if_neg hs]
      exact q m1 (by rw [hz]; exact hb1) hf1
    · have c5 : ¬ nI v = 0 := c5
      rw [n0 (by rw [hv]; split <;> omega), hv] at c5
      have hs : sh := Decidable.byContradiction fun z => by rw [if_neg z] at c5; omega
      have hz : zage g e sh = zlose (zcool g e) e := by unfold zage; rw [if_pos c, if_pos hs]
      exact q m2 (by rw [hz]; exact hb2) (hf1.tr hf2)
  · have c : ¬ mem (h + (7 + 6 * 0) + (nI e).toNatClampNeg) = nI 2 := c
    have c2 : mem (h + (7 + 6 * 0) + (nI e).toNatClampNeg) = nI 3 := c2
    rw [e1, nEq (by omega) (by omega)] at c c2
    have e6 : mem (h + 6) = nI (g 6) := hb.k 6 (by omega)
    refine ⟨hh.k3, by decide, fun c5 => ⟨rfl, rfl, ?_⟩, fun c5 => ⟨by rw [hh.k3]; rfl, ok_cool (by omega) hh hb wf he (fun m1 hb1 hf1 => ⟨rfl, rfl, ?_⟩)⟩⟩
    · have c5 : mem (h + 6) - mem (h + 6) / nI 2 * nI 2 = 0 := c5
      rw [e6, zodd (by omega), n0 (by omega)] at c5
      have hz : zage g e sh = g := by unfold zage; rw [if_neg c, if_pos c2, if_pos c5]
      exact q mem (by rw [hz]; exact hb) zfr.rf
    · have c5 : ¬ mem (h + 6) - mem (h + 6) / nI 2 * nI 2 = 0 := c5
      rw [e6, zodd (by omega), n0 (by omega)] at c5
      have hz : zage g e sh = zcool g e := by unfold zage; rw [if_neg c, if_pos c2, if_neg c5]
      exact q m1 (by rw [hz]; exact hb1) hf1
  · have c : ¬ mem (h + (7 + 6 * 0) + (nI e).toNatClampNeg) = nI 2 := c
    have c2 : ¬ mem (h + (7 + 6 * 0) + (nI e).toNatClampNeg) = nI 3 := c2
    have c3 : mem (h + (7 + 6 * 0) + (nI e).toNatClampNeg) = nI 4 := c3
    rw [e1, nEq (by omega) (by omega)] at c c2 c3
    refine ⟨by rw [hh.k3]; rfl, ok_warm (by omega) hh hb wf he (fun m1 hb1 hf1 => ⟨rfl, rfl, ?_⟩)⟩
    have hz : zage g e sh = zwarm g e := by unfold zage; rw [if_neg c, if_neg c2, if_pos c3]
    exact q m1 (by rw [hz]; exact hb1) hf1
  · have c : ¬ mem (h + (7 + 6 * 0) + (nI e).toNatClampNeg) = nI 2 := c
    have c2 : ¬ mem (h + (7 + 6 * 0) + (nI e).toNatClampNeg) = nI 3 := c2
    have c3 : ¬ mem (h + (7 + 6 * 0) + (nI e).toNatClampNeg) = nI 4 := c3
    have c4 : mem (h + (7 + 6 * 0) + (nI e).toNatClampNeg) = nI 5 := c4
    rw [e1, nEq (by omega) (by omega)] at c c2 c3 c4
    have he2 : e < zwarm g e 0 := by rw [zwarm_ne (by omega)]; exact he
    have w52 := (hwm.2.2.2.2.2.2.2.2 e he2).2.2.2.2
    refine ⟨by rw [hh.k3]; rfl, ok_warm (by omega) hh hb wf he (fun m1 hb1 hf1 => ⟨hh.k3, _, hh.lk 4 (by omega), Or.inl (hh.ka 4 (by omega)), hh.inn (by omega), fun c5 => ⟨rfl, rfl, ?_⟩, fun c5 => ⟨by rw [hh.k3]; rfl, ok_lose (by omega) hh hb1 hwm he2 (fun m2 hb2 hf2 => ⟨rfl, rfl, ?_⟩)⟩⟩)⟩
    · have e4 : m1 (h + (7 + 6 * 4) + (nI e).toNatClampNeg) = nI (zwarm g e (31 + e)) := by rw [nC (by omega)]; exact hb1.ht he2
      have c5 : m1 (h + (7 + 6 * 4) + (nI e).toNatClampNeg) < nI 10 := c5
      rw [e4, nLt (by omega) (by omega)] at c5
      have hz : zage g e sh = zwarm g e := by unfold zage; rw [if_neg c, if_neg c2, if_neg c3, if_pos c4, if_pos c5]
      exact q m1 (by rw [hz]; exact hb1) hf1
    · have e4 : m1 (h + (7 + 6 * 4) + (nI e).toNatClampNeg) = nI (zwarm g e (31 + e)) := by rw [nC (by omega)]; exact hb1.ht he2
      have c5 : ¬ m1 (h + (7 + 6 * 4) + (nI e).toNatClampNeg) < nI 10 := c5
      rw [e4, nLt (by omega) (by omega)] at c5
      have hz : zage g e sh = zlose (zwarm g e) e := by unfold zage; rw [if_neg c, if_neg c2, if_neg c3, if_pos c4, if_neg c5]
      exact q m2 (by rw [hz]; exact hb2) (hf1.tr hf2)
  · have c : ¬ mem (h + (7 + 6 * 0) + (nI e).toNatClampNeg) = nI 2 := c
    have c2 : ¬ mem (h + (7 + 6 * 0) + (nI e).toNatClampNeg) = nI 3 := c2
    have c3 : ¬ mem (h + (7 + 6 * 0) + (nI e).toNatClampNeg) = nI 4 := c3
    have c4 : ¬ mem (h + (7 + 6 * 0) + (nI e).toNatClampNeg) = nI 5 := c4
    rw [e1, nEq (by omega) (by omega)] at c c2 c3 c4
    refine ⟨by rw [hh.k3]; rfl, ok_cool (by omega) hh hb wf he (fun m1 hb1 hf1 => ⟨rfl, rfl, ?_⟩)⟩
    have hz : zage g e sh = zcool g e := by unfold zage; rw [if_neg c, if_neg c2, if_neg c3, if_neg c4]
    exact q m1 (by rw [hz]; exact hb1) hf1
theorem letOut_loop (hh : zHo lk h) {g0 : zH} (wf : zWF g0) (q : ∀ mem', zHB mem' h (zlets g0 (g0 0)) → zfr mem mem' h → Q none mem') : ∀ n i m1, i + n = g0 0 → zHB m1 h (zlets g0 i) → zfr mem m1 h → zE X d 56 2 [.ref h, .int (nI i)] [] m1 lk L lk L Q := by
  have w0 := wf.1
  intro n
  induction n with
  | zero =>
    intro i m1 hi hb hf
    have n0 : zlets g0 i 0 = g0 0 := zlets_ne (by omega) i (by omega)
    refine zE_do 40 2 (tbl := tX3_letOut) zck_56 rfl (h := ?_)
    refine ⟨hh.k3, fun c => ⟨rfl, rfl, ?_⟩, fun c => ?_⟩
    · rw [show i = g0 0 by omega] at hb; exact q m1 hb hf
    · exfalso
      have c : ¬ m1 (h + 0) ≤ nI i := c
      rw [hb.k 0 (by omega), n0, nLe (by omega) (by omega)] at c
      omega
  | succ n ih =>
    intro i m1 hi hb hf
    have n0 : zlets g0 i 0 = g0 0 := zlets_ne (by omega) i (by omega)
    have wi := zlets_wf wf i (by omega)
    generalize hgi : zlets g0 i = gi at hb n0 wi
    have hnext : zlets g0 (i + 1) = zlet1 gi i := by rw [← hgi]; rfl
    have k := ih (i + 1)
    rw [hnext, ← nI_1] at k
    have hie : i < gi 0 := by omega
    obtain ⟨-, w2, w3, -, -⟩ := wi.2.2.2.2.2.2.2.2 i hie
    have w1 := wi.2.2.1
    have w4 := wi.2.2.2.2.2.1
    have e4 : m1 (h + 4) = nI (gi 4) := hb.k 4 (by omega)
    have e1 : m1 (h + (7 + 6 * 1) + (nI i).toNatClampNeg) = nI (gi (13 + i)) := by rw [nC (by omega)]; exact hb.at hie
    have e2 : m1 (h + (7 + 6 * 2) + (nI i).toNatClampNeg) = nI (gi (19 + i)) := by rw [nC (by omega)]; exact hb.to hie
    refine zE_do 40 2 (tbl := tX3_letOut) zck_56 rfl (h := ?_)
    refine ⟨hh.k3, fun c => ?_, fun c => ⟨hh.k3, _, hh.lk 2 (by omega), Or.inl (hh.ka 2 (by omega)), hh.inn (by omega), hh.k3, fun c2 => ?_, fun c2 => ⟨hh.k3, _, hh.lk 1 (by omega), Or.inl (hh.ka 1 (by omega)), hh.inn (by omega), fun c3 => ⟨hh.k3, _, hh.lk 1 (by omega), hh.ka 1 (by omega), hh.inn (by omega), ?_⟩, fun c3 => ⟨hh.k3, _, hh.lk 1 (by omega), Or.inl (hh.ka 1 (by omega)), hh.inn (by omega), hh.k3, fun c4 => ?_, fun c4 => ⟨hh.k3, _, hh.lk 1 (by omega), hh.ka 1 (by omega), hh.inn (by omega), ?_⟩⟩⟩⟩⟩
    · exfalso
      have c : m1 (h + 0) ≤ nI i := c
      rw [hb.k 0 (by omega), n0, nLe (by omega) (by omega)] at c
      omega
    · have c2 : ¬ m1 (h + (7 + 6 * 2) + (nI i).toNatClampNeg) = m1 (h + 4) := c2
      rw [e2, e4, nEq (by omega) (by omega)] at c2
      refine k m1 (by omega) ?_ hf
      unfold zlet1; rw [if_neg (fun z => c2 z.1)]; exact hb
    · have c2 : m1 (h + (7 + 6 * 2) + (nI i).toNatClampNeg) = m1 (h + 4) := c2
      rw [e2, e4, nEq (by omega) (by omega)] at c2
      have c3 : m1 (h + (7 + 6 * 1) + (nI i).toNatClampNeg) = nI 10 := c3
      rw [e1, nEq (by omega) (by omega)] at c3
      refine k _ (by omega) ?_ (hf.tr (zfr.up (x := h + (7 + 6 * 1) + (nI i).toNatClampNeg) (v := nI 11) (by omega) (by rw [nC (by omega)]; omega)))
      unfold zlet1; rw [if_pos ⟨c2, Or.inl c3⟩]
      exact hb.set (13 + i) 11 (by omega) (by rw [nC (by omega)]; omega)
    · have c3 : ¬ m1 (h + (7 + 6 * 1) + (nI i).toNatClampNeg) = nI 10 := c3
      rw [e1, nEq (by omega) (by omega)] at c3
      have c4 : ¬ m1 (h + (7 + 6 * 1) + (nI i).toNatClampNeg) = m1 (h + 4) := c4
      rw [e1, e4, nEq (by omega) (by omega)] at c4
      refine k m1 (by omega) ?_ hf
      unfold zlet1; rw [if_neg (fun z => z.2.elim c3 c4)]; exact hb
    · have c2 : m1 (h + (7 + 6 * 2) + (nI i).toNatClampNeg) = m1 (h + 4) := c2
      rw [e2, e4, nEq (by omega) (by omega)] at c2
      have c4 : m1 (h + (7 + 6 * 1) + (nI i).toNatClampNeg) = m1 (h + 4) := c4
      rw [e1, e4, nEq (by omega) (by omega)] at c4
      refine k _ (by omega) ?_ (hf.tr (zfr.up (x := h + (7 + 6 * 1) + (nI i).toNatClampNeg) (v := nI 11) (by omega) (by rw [nC (by omega)]; omega)))
      unfold zlet1; rw [if_pos ⟨c2, Or.inr c4⟩]
      exact hb.set (13 + i) 11 (by omega) (by rw [nC (by omega)]; omega)
theorem ok_letOut (hd : 0 < d) (hh : zHo lk h) (hb : zHB mem h g) (wf : zWF g) (q : ∀ mem', zHB mem' h (zlets g (g 0)) → zfr mem mem' h → Q none mem') : zOk X d 56 [.ref h] mem lk L lk L Q := by
  refine zOk_do 20 (tbl := tX3_letOut) zck_56 rfl (by omega) (h := ?_)
  exact letOut_loop hh wf q (g 0) 0 mem (by omega) hb zfr.rf
end HP
