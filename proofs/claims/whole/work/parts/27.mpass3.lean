/-! the reference: coolsOne, cools, passes -/
def zhN (g : zH) (e : Nat) : Nat := if 4 ≤ g (7 + e) then (if g (31 + e) < 60 then g (31 + e) + 1 else g (31 + e)) else if g (7 + e) = 3 ∧ g 6 % 2 = 0 then g (31 + e) else g (31 + e) - 1
def zwN (g : zH) (e : Nat) (sh : Prop) [Decidable sh] : Nat := if ((g (7 + e) = 2 ∧ sh) ∨ (g (7 + e) = 5 ∧ 10 ≤ zhN g e)) ∧ 1 < g (25 + e) then g (25 + e) - 1 else g (25 + e)
theorem zup2_ext {g f : zH} {e H W : Nat} (h1 : f (31 + e) = H) (h2 : f (25 + e) = W) (h3 : ∀ j, j ≠ 25 + e → j ≠ 31 + e → f j = g j) : f = va_up (va_up g (31 + e) H) (25 + e) W := by
  funext j
  by_cases a : j = 25 + e
  · subst a; rw [zup_eq]; exact h2
  · rw [zup_ne a]
    by_cases b : j = 31 + e
    · subst b; rw [zup_eq]; exact h1
    · rw [zup_ne b]; exact h3 j a b
theorem zage_form {g : zH} {e : Nat} {sh : Prop} [Decidable sh] (hk : 1 ≤ g (7 + e) ∧ g (7 + e) ≤ 5) : zage g e sh = va_up (va_up g (31 + e) (zhN g e)) (25 + e) (zwN g e sh) := by
  have n1 : 25 + e ≠ 31 + e := by omega
  have n2 : 31 + e ≠ 25 + e := by omega
  have hc : zcool g e (31 + e) = g (31 + e) - 1 := zup_eq
  have hc2 : zcool g e (25 + e) = g (25 + e) := zup_ne n1
  have hw : zwarm g e (31 + e) = if g (31 + e) < 60 then g (31 + e) + 1 else g (31 + e) := zup_eq
  have hw2 : zwarm g e (25 + e) = g (25 + e) := zup_ne n1
  have hl : ∀ g' : zH, zlose g' e (31 + e) = g' (31 + e) := fun g' => zup_ne n2
  have hl2 : ∀ g' : zH, zlose g' e (25 + e) = if 1 < g' (25 + e) then g' (25 + e) - 1 else g' (25 + e) := fun g' => zup_eq
  have fin : ∀ f : zH, zage g e sh = f → f (31 + e) = zhN g e → f (25 + e) = zwN g e sh → zage g e sh = va_up (va_up g (31 + e) (zhN g e)) (25 + e) (zwN g e sh) := fun f hz h1 h2 =>
    zup2_ext (by rw [hz]; exact h1) (by rw [hz]; exact h2) (fun j a b => zage_ne a b)
  rcases (by omega : g (7 + e) = 1 ∨ g (7 + e) = 2 ∨ g (7 + e) = 3 ∨ g (7 + e) = 4 ∨ g (7 + e) = 5) with k | k | k | k | k
  · have k2 : ¬ g (7 + e) = 2 := by omega
    have k3 : ¬ g (7 + e) = 3 := by omega
    have k4 : ¬ g (7 + e) = 4 := by omega
    have k5 : ¬ g (7 + e) = 5 := by omega
    refine fin (zcool g e) (by unfold zage; rw [if_neg k2, if_neg k3, if_neg k4, if_neg k5]) ?_ ?_
    · unfold zhN; rw [if_neg (show ¬ 4 ≤ g (7 + e) by omega), if_neg (fun z => k3 z.1), hc]
    · unfold zwN; rw [if_neg (fun z => z.1.elim (fun y => k2 y.1) (fun y => k5 y.1)), hc2]
  · have k3 : ¬ g (7 + e) = 3 := by omega
    have k5 : ¬ g (7 + e) = 5 := by omega
    by_cases hs : sh
    · refine fin (zlose (zcool g e) e) (by unfold zage; rw [if_pos k, if_pos hs]) ?_ ?_
      · unfold zhN; rw [if_neg (show ¬ 4 ≤ g (7 + e) by omega), if_neg (fun z => k3 z.1), hl, hc]
      · rw [hl2, hc2]; unfold zwN
        by_cases z : 1 < g (25 + e)
        · rw [if_pos z, if_pos ⟨Or.inl ⟨k, hs⟩, z⟩]
        · rw [if_neg z, if_neg (fun q => z q.2)]
    · refine fin (zcool g e) (by unfold zage; rw [if_pos k, if_neg hs]) ?_ ?_
      · unfold zhN; rw [if_neg (show ¬ 4 ≤ g (7 + e) by omega), if_neg (fun z => k3 z.1), hc]
      · unfold zwN; rw [if_neg (fun z => z.1.elim (fun y => hs y.2) (fun y => k5 y.1)), hc2]
  · have k2 : ¬ g (7 + e) = 2 := by omega
    have k5 : ¬ g (7 + e) = 5 := by omega
    by_cases hs : g 6 % 2 = 0
    · refine fin g (by unfold zage; rw [if_neg k2, if_pos k, if_pos hs]) ?_ ?_
      · unfold zhN; rw [if_neg (show ¬ 4 ≤ g (7 + e) by omega), if_pos ⟨k, hs⟩]
      · unfold zwN; rw [if_neg (fun z => z.1.elim (fun y => k2 y.1) (fun y => k5 y.1))]
    · refine fin (zcool g e) (by unfold zage; rw [if_neg k2, if_pos k, if_neg hs]) ?_ ?_
      · unfold zhN; rw [if_neg (show ¬ 4 ≤ g (7 + e) by omega), if_neg (fun z => hs z.2), hc]
      · unfold zwN; rw [if_neg (fun z => z.1.elim (fun y => k2 y.1) (fun y => k5 y.1)), hc2]
  · have k2 : ¬ g (7 + e) = 2 := by omega
    have k3 : ¬ g (7 + e) = 3 := by omega
    have k5 : ¬ g (7 + e) = 5 := by omega
    refine fin (zwarm g e) (by unfold zage; rw [if_neg k2, if_neg k3, if_pos k]) ?_ ?_
    · rw [hw]; unfold zhN; rw [if_pos (show 4 ≤ g (7 + e) by omega)]
    · unfold zwN; rw [if_neg (fun z => z.1.elim (fun y => k2 y.1) (fun y => k5 y.1)), hw2]
  · have k2 : ¬ g (7 + e) = 2 := by omega
    have k3 : ¬ g (7 + e) = 3 := by omega
    have k4 : ¬ g (7 + e) = 4 := by omega
    have hN : zwarm g e (31 + e) = zhN g e := by rw [hw]; unfold zhN; rw [if_pos (show 4 ≤ g (7 + e) by omega)]
    by_cases y : zwarm g e (31 + e) < 10
    · refine fin (zwarm g e) (by unfold zage; rw [if_neg k2, if_neg k3, if_neg k4, if_pos k, if_pos y]) hN ?_
      rw [hN] at y
      unfold zwN; rw [if_neg (fun z => z.1.elim (fun x => k2 x.1) (fun x => by have := x.2; omega)), hw2]
    · refine fin (zlose (zwarm g e) e) (by unfold zage; rw [if_neg k2, if_neg k3, if_neg k4, if_pos k, if_neg y]) (by rw [hl]; exact hN) ?_
      rw [hN] at y
      rw [hl2, hw2]; unfold zwN
      by_cases z : 1 < g (25 + e)
      · rw [if_pos z, if_pos ⟨Or.inr ⟨k, by omega⟩, z⟩]
      · rw [if_neg z, if_neg (fun q => z q.2)]
theorem nsub {a b : Nat} (h : b ≤ a) (ha : a < 1000) : nI a - nI b = nI (a - b) := by
  have := pk_sub_toInt (a := a) (b := b) (by omega) (by omega)
  rw [i_eq, this, nT (by omega)]; omega
section MP
variable {X d : Nat} {mem : zMem} {lk : zLk} {L : List Nat} {Q : Option Value → zMem → Prop} {r : Nat} {g : zH}
theorem mcool187 {e t : Nat} {v3 v4 v5 v6 v7 : Value} {lo : Prop} [Decidable lo] (hw : lk 1000 = some 2000) (hr : r + 43 ≤ 1247) (hb : zHB mem (2000 + r) g) (h6 : g 0 ≤ 6) (he : e < g 0) (hwt : g (25 + e) < 1000) (ht : t = if lo then 1 else 0)
    (q : ∀ mem', zHB mem' (2000 + r) (va_up g (25 + e) (if lo ∧ 1 < g (25 + e) then g (25 + e) - 1 else g (25 + e))) → zfr mem mem' (2000 + r) → Q none mem') : zE X d 164 187 [.ref 1000, .int (nI r), .int (nI e), v3, v4, v5, v6, v7, .int (nI t)] [] mem lk L lk L Q := by
  have e1 := hb.rw hr h6 he
  have ea : 2000 + (nI r + nI 25 + nI e).toNatClampNeg = 2000 + r + (25 + e) := by rw [zw2 (by omega)]; omega
  have lt : t ≤ 1 := by rw [ht]; split <;> omega
  refine zE_do 60 187 (tbl := tX8_coolsOne) zck_164 rfl (h := ?_)
  refine ⟨rfl, _, hw, Or.inl rfl, zwi2 (by omega), fun c => ⟨rfl, zwi2 (by omega), rfl, rfl, ?_⟩, fun c => ⟨rfl, _, hw, Or.inl rfl, zwi2 (by omega), fun c2 => ⟨rfl, zwi2 (by omega), rfl, rfl, ?_⟩, fun c2 => ⟨rfl, zwi2 (by omega), rfl, rfl, ?_⟩⟩⟩
  · have c : nI t = 0 := c
    rw [n0 (by omega), ht] at c
    have hz : ¬ lo := fun z => by rw [if_pos z] at c; omega
    show Q none (upd mem (2000 + (nI r + nI 25 + nI e).toNatClampNeg) (mem (2000 + (nI r + nI 25 + nI e).toNatClampNeg) - nI 0))
    refine q _ ?_ (zfr.up (by omega) (by omega))
    rw [if_neg (fun z => hz z.1), e1, nsub (by omega) hwt]
    exact hb.set (25 + e) _ (by omega) ea
  · have c2 : mem (2000 + (nI r + nI 25 + nI e).toNatClampNeg) ≤ nI 1 := c2
    rw [e1, nLe (by omega) (by omega)] at c2
    show Q none (upd mem (2000 + (nI r + nI 25 + nI e).toNatClampNeg) (mem (2000 + (nI r + nI 25 + nI e).toNatClampNeg) - nI 0))
    refine q _ ?_ (zfr.up (by omega) (by omega))
    rw [if_neg (fun z => by have := z.2; omega), e1, nsub (by omega) hwt]
    exact hb.set (25 + e) _ (by omega) ea
  · have c : ¬ nI t = 0 := c
    rw [n0 (by omega), ht] at c
    have hz : lo := Decidable.byContradiction fun z => by rw [if_neg z] at c; omega
    have c2 : ¬ mem (2000 + (nI r + nI 25 + nI e).toNatClampNeg) ≤ nI 1 := c2
    rw [e1, nLe (by omega) (by omega)] at c2
    show Q none (upd mem (2000 + (nI r + nI 25 + nI e).toNatClampNeg) (mem (2000 + (nI r + nI 25 + nI e).toNatClampNeg) - nI 1))
    refine q _ ?_ (zfr.up (by omega) (by omega))
    rw [if_pos ⟨hz, by omega⟩, e1, nsub (by omega) hwt]
    exact hb.set (25 + e) _ (by omega) ea
theorem mcool120 {e v : Nat} {v5 v6 v8 : Value} {went : Prop} [Decidable went] (hv : v = if went then 1 else 0) (hw : lk 1000 = some 2000) (hr : r + 43 ≤ 1247) (hb : zHB mem (2000 + r) g) (wf : zWF g) (he : e < g 0) 
    (q : ∀ mem', zHB mem' (2000 + r) (zage g e (went ∧ g (13 + e) = 10)) → zfr mem mem' (2000 + r) → Q none mem') : zE X d 164 120 [.ref 1000, .int (nI r), .int (nI e), .int (nI v), .int (nI (g (7 + e))), v5, v6, .int (nI (zhN g e)), v8] [] mem lk L lk L Q := by
  have h6 := wf.1
  obtain ⟨w1, -, -, w4, w5⟩ := wf.2.2.2.2.2.2.2.2 e he
  have w11 := wf.at11 e he
  have ea : 2000 + (nI r + nI 31 + nI e).toNatClampNeg = 2000 + r + (31 + e) := by rw [zw2 (by omega)]; omega
  rw [zage_form w1] at q
  have hb1 := hb.set (31 + e) (zhN g e) (by omega) ea
  have hf1 : zfr mem (upd mem (2000 + (nI r + nI 31 + nI e).toNatClampNeg) (nI (zhN g e))) (2000 + r) := zfr.up (by omega) (by omega)
  have hN : zhN g e ≤ 60 := by unfold zhN; repeat' split
                               all_goals omega
  have g0 : va_up g (31 + e) (zhN g e) 0 = g 0 := zup_ne (by omega)
  have g25 : va_up g (31 + e) (zhN g e) (25 + e) = g (25 + e) := zup_ne (by omega)
  have g13 : va_up g (31 + e) (zhN g e) (13 + e) = g (13 + e) := zup_ne (by omega)
  have e13 := hb1.ra hr (by rw [g0]; exact h6) (e := e) (by rw [g0]; exact he)
  rw [g13] at e13
  have lv : v ≤ 1 := by rw [hv]; split <;> omega
  unfold zwN at q
  have key : ∀ t, (t = if ((g (7 + e) = 2 ∧ (went ∧ g (13 + e) = 10)) ∨ (g (7 + e) = 5 ∧ 10 ≤ zhN g e)) then 1 else 0) → zE X d 164 187 [.ref 1000, .int (nI r), .int (nI e), .int (nI v), .int (nI (g (7 + e))), v5, v6, .int (nI (zhN g e)), .int (nI t)] [] (upd mem (2000 + (nI r + nI 31 + nI e).toNatClampNeg) (nI (zhN g e))) lk L lk L Q := fun t ht =>
    mcool187 hw hr hb1 (by rw [g0]; exact h6) (by rw [g0]; exact he) (by rw [g25]; omega) ht (fun m2 hb2 hf2 => q m2 (by rw [g25] at hb2; exact hb2) (hf1.tr hf2))
  refine zgoc [187] 60 120 (tbl := tX8_coolsOne) zck_164 rfl (h := ?_)
  refine ⟨rfl, _, hw, rfl, zwi2 (by omega), fun c => ⟨fun c2 => key 0 ?_, fun c2 => ⟨fun c3 => key 0 ?_, fun c3 => key 1 ?_⟩⟩, fun c => ⟨rfl, _, hw, Or.inl rfl, zwi2 (by omega), fun c2 => key 0 ?_, fun c2 => ⟨fun c3 => key 0 ?_, fun c3 => key 1 ?_⟩⟩⟩
  · have c : ¬ nI (g (7 + e)) = nI 2 := c
    have c2 : ¬ nI (g (7 + e)) = nI 5 := c2
    rw [nEq (by omega) (by omega)] at c c2
    rw [if_neg (fun z => z.elim (fun y => c y.1) (fun y => c2 y.1))]
  · have c : ¬ nI (g (7 + e)) = nI 2 := c
    have c3 : nI (zhN g e) < nI 10 := c3
    rw [nEq (by omega) (by omega)] at c
    rw [nLt (by omega) (by omega)] at c3
    rw [if_neg (fun z => z.elim (fun y => c y.1) (fun y => by have := y.2; omega))]
  · have c2 : nI (g (7 + e)) = nI 5 := c2
    have c3 : ¬ nI (zhN g e) < nI 10 := c3
    rw [nEq (by omega) (by omega)] at c2
    rw [nLt (by omega) (by omega)] at c3
    rw [if_pos (Or.inr ⟨c2, by omega⟩)]
  · have c : nI (g (7 + e)) = nI 2 := c
    rw [nEq (by omega) (by omega)] at c
    have c2 : ¬ upd mem (2000 + (nI r + nI 31 + nI e).toNatClampNeg) (nI (zhN g e)) (2000 + (nI r + nI 13 + nI e).toNatClampNeg) = nI 10 := c2
    rw [e13, nEq (by omega) (by omega)] at c2
    rw [if_neg (fun z => z.elim (fun y => c2 y.2.2) (fun y => by have := y.1; omega))]
  · have c : nI (g (7 + e)) = nI 2 := c
    rw [nEq (by omega) (by omega)] at c
    have c3 : nI v = 0 := c3
    rw [n0 (by omega), hv] at c3
    rw [if_neg (fun z => z.elim (fun y => by rw [if_pos y.2.1] at c3; omega) (fun y => by have := y.1; omega))]
  · have c : nI (g (7 + e)) = nI 2 := c
    rw [nEq (by omega) (by omega)] at c
    have c2 : upd mem (2000 + (nI r + nI 31 + nI e).toNatClampNeg) (nI (zhN g e)) (2000 + (nI r + nI 13 + nI e).toNatClampNeg) = nI 10 := c2
    rw [e13, nEq (by omega) (by omega)] at c2
    have c3 : ¬ nI v = 0 := c3
    rw [n0 (by omega), hv] at c3
    have hz : went := Decidable.byContradiction fun z => by rw [if_neg z] at c3; omega
    rw [if_pos (Or.inl ⟨c, hz, c2⟩)]
theorem mcool95 {e v : Nat} {x y6 : Int32} {v5 v8 : Value} {went : Prop} [Decidable went] (hv : v = if went then 1 else 0) (hw : lk 1000 = some 2000) (hr : r + 43 ≤ 1247) (hb : zHB mem (2000 + r) g) (wf : zWF g) (he : e < g 0)
    (hx : (x.toInt < 0 ∧ zhN g e = 0) ∨ (60 < x.toInt ∧ zhN g e = 60) ∨ (0 ≤ x.toInt ∧ x.toInt ≤ 60 ∧ x = nI (zhN g e)))
    (q : ∀ mem', zHB mem' (2000 + r) (zage g e (went ∧ g (13 + e) = 10)) → zfr mem mem' (2000 + r) → Q none mem') : zE X d 164 95 [.ref 1000, .int (nI r), .int (nI e), .int (nI v), .int (nI (g (7 + e))), v5, .int y6, .int x, v8] [] mem lk L lk L Q := by
  have key : ∀ H, H = nI (zhN g e) → zE X d 164 120 [.ref 1000, .int (nI r), .int (nI e), .int (nI v), .int (nI (g (7 + e))), v5, .int y6, .int H, v8] [] mem lk L lk L Q := fun H hH => by
    subst hH; exact mcool120 hv hw hr hb wf he q
  have n60 : (nI 60).toInt = 60 := nT (by omega)
  refine zgoc [120] 60 95 (tbl := tX8_coolsOne) zck_164 rfl (h := ?_)
  refine ⟨fun c => ⟨fun c2 => key _ ?_, fun c2 => key (nI 60) ?_⟩, fun c => key (nI 0) ?_⟩
  · have c : 0 ≤ x := c
    have c2 : x ≤ nI 60 := c2
    rw [i_le, i_0] at c
    rw [i_le, n60] at c2
    rcases hx with ⟨h1, h2⟩ | ⟨h1, h2⟩ | ⟨h1, h2, h3⟩
    · omega
    · omega
    · exact h3
  · have c : 0 ≤ x := c
    have c2 : ¬ x ≤ nI 60 := c2
    rw [i_le, i_0] at c
    rw [i_le, n60] at c2
    rcases hx with ⟨h1, h2⟩ | ⟨h1, h2⟩ | ⟨h1, h2, h3⟩
    · omega
    · rw [h2]
    · omega
  · have c : ¬ 0 ≤ x := c
    rw [i_le, i_0] at c
    rcases hx with ⟨h1, h2⟩ | ⟨h1, h2⟩ | ⟨h1, h2, h3⟩
    · rw [h2]
    · omega
    · omega
theorem mcool66 {e v t : Nat} {v7 v8 : Value} {went : Prop} [Decidable went] (hv : v = if went then 1 else 0) (hw : lk 1000 = some 2000) (hr : r + 43 ≤ 1247) (hb : zHB mem (2000 + r) g) (wf : zWF g) (he : e < g 0)
    (ht : g (7 + e) < 4 → t = if g (7 + e) = 3 ∧ g 6 % 2 = 0 then 0 else 1) (lt : t ≤ 1)
    (q : ∀ mem', zHB mem' (2000 + r) (zage g e (went ∧ g (13 + e) = 10)) → zfr mem mem' (2000 + r) → Q none mem') : zE X d 164 66 [.ref 1000, .int (nI r), .int (nI e), .int (nI v), .int (nI (g (7 + e))), .int (nI (g (31 + e))), .int (nI t), v7, v8] [] mem lk L lk L Q := by
  obtain ⟨w1, -, -, w4, w5⟩ := wf.2.2.2.2.2.2.2.2 e he
  refine zgoc [95] 60 66 (tbl := tX8_coolsOne) zck_164 rfl (h := ?_)
  refine ⟨fun c => ⟨fun c2 => mcool95 hv hw hr hb wf he (x := nI (g (31 + e))) ?_ q, fun c2 => mcool95 hv hw hr hb wf he (x := nI (g (31 + e)) - nI 1) ?_ q⟩, fun c => mcool95 hv hw hr hb wf he (x := nI (g (31 + e)) + nI 1) ?_ q⟩
  · have c : nI (g (7 + e)) < nI 4 := c
    rw [nLt (by omega) (by omega)] at c
    have c2 : nI t = 0 := c2
    rw [n0 (by omega), ht c] at c2
    have hz : g (7 + e) = 3 ∧ g 6 % 2 = 0 := Decidable.byContradiction fun z => by rw [if_neg z] at c2; omega
    have hN : zhN g e = g (31 + e) := by unfold zhN; rw [if_neg (by omega), if_pos hz]
    rw [hN, nT (by omega)]
    exact Or.inr (Or.inr ⟨by omega, by omega, rfl⟩)
  · have c : nI (g (7 + e)) < nI 4 := c
    rw [nLt (by omega) (by omega)] at c
    have c2 : ¬ nI t = 0 := c2
    rw [n0 (by omega), ht c] at c2
    have hz : ¬ (g (7 + e) = 3 ∧ g 6 % 2 = 0) := fun z => by rw [if_pos z] at c2; omega
    have hN : zhN g e = g (31 + e) - 1 := by unfold zhN; rw [if_neg (by omega), if_neg hz]
    rw [hN, pk_sub_toInt (by omega) (by omega)]
    rcases Nat.eq_zero_or_pos (g (31 + e)) with z | z
    · exact Or.inl ⟨by omega, by omega⟩
    · exact Or.inr (Or.inr ⟨by omega, by omega, nsub z (by omega)⟩)
  · have c : ¬ nI (g (7 + e)) < nI 4 := c
    rw [nLt (by omega) (by omega)] at c
    have hN : zhN g e = if g (31 + e) < 60 then g (31 + e) + 1 else g (31 + e) := by unfold zhN; rw [if_pos (show 4 ≤ g (7 + e) by omega)]
    rw [hN, nI_add, nT (by omega)]
    by_cases z : g (31 + e) < 60
    · rw [if_pos z]; exact Or.inr (Or.inr ⟨by omega, by omega, rfl⟩)
    · rw [if_neg z]; exact Or.inr (Or.inl ⟨by omega, by omega⟩)
theorem ok_mcoolsOne {e v : Nat} {went : Prop} [Decidable went] (hd : 0 < d) (hv : v = if went then 1 else 0) (hw : lk 1000 = some 2000) (hr : r + 43 ≤ 1247) (hb : zHB mem (2000 + r) g) (wf : zWF g) (he : e < g 0)
    (q : ∀ mem', zHB mem' (2000 + r) (zage g e (went ∧ g (13 + e) = 10)) → zfr mem mem' (2000 + r) → Q none mem') : zOk X d 164 [.ref 1000, .int (nI r), .int (nI e), .int (nI v)] mem lk L lk L Q := by
  have h6 := wf.1
  obtain ⟨w1, -, -, w4, w5⟩ := wf.2.2.2.2.2.2.2.2 e he
  have w6 := wf.2.2.2.2.2.2.2.1
  have e1 := hb.rk hr h6 he
  have e2 := hb.rh hr h6 he
  have e6 := hb.r1 hr (k := 6) (by omega)
  refine zOk_doc [66] 60 (tbl := tX8_coolsOne) zck_164 rfl (by omega) (h := ?_)
  refine ⟨rfl, _, hw, Or.inl rfl, zwi2 (by omega), rfl, _, hw, Or.inl rfl, zwi2 (by omega), ?_⟩
  rw [e1, e2]
  have key : ∀ t v7 v8, t ≤ 1 → (g (7 + e) < 4 → t = if g (7 + e) = 3 ∧ g 6 % 2 = 0 then 0 else 1) → zE X d 164 66 [.ref 1000, .int (nI r), .int (nI e), .int (nI v), .int (nI (g (7 + e))), .int (nI (g (31 + e))), .int (nI t), v7, v8] [] mem lk L lk L Q := fun t v7 v8 lt ht => mcool66 hv hw hr hb wf he ht lt q
  refine ⟨fun c => key 1 _ _ (by omega) (fun _ => ?_), fun c => ⟨fun c2 => key 1 _ _ (by omega) (fun _ => ?_), fun c2 => ⟨fun c3 => key 0 _ _ (by omega) (fun h4 => ?_), fun c3 => ⟨rfl, _, hw, Or.inl rfl, zwi1 (by omega), by decide, fun c4 => key 0 _ _ (by omega) (fun _ => ?_), fun c4 => key 1 _ _ (by omega) (fun _ => ?_)⟩⟩⟩⟩
  · have c : nI (g (7 + e)) = nI 1 := c
    rw [nEq (by omega) (by omega)] at c
    rw [if_neg (by omega)]
  · have c2 : nI (g (7 + e)) = nI 2 := c2
    rw [nEq (by omega) (by omega)] at c2
    rw [if_neg (by omega)]
  · have c : ¬ nI (g (7 + e)) = nI 1 := c
    have c2 : ¬ nI (g (7 + e)) = nI 2 := c2
    have c3 : ¬ nI (g (7 + e)) = nI 3 := c3
    rw [nEq (by omega) (by omega)] at c c2 c3
    omega
  · have c3 : nI (g (7 + e)) = nI 3 := c3
    rw [nEq (by omega) (by omega)] at c3
    have c4 : ¬ mem (2000 + (nI r + nI 6).toNatClampNeg) - mem (2000 + (nI r + nI 6).toNatClampNeg) / nI 2 * nI 2 = nI 1 := c4
    rw [e6, zodd (by omega), nEq (by omega) (by omega)] at c4
    rw [if_pos ⟨c3, by omega⟩]
  · have c4 : mem (2000 + (nI r + nI 6).toNatClampNeg) - mem (2000 + (nI r + nI 6).toNatClampNeg) / nI 2 * nI 2 = nI 1 := c4
    rw [e6, zodd (by omega), nEq (by omega) (by omega)] at c4
    rw [if_neg (by omega)]
theorem mcools_loop {went : Prop} [Decidable went] {v : Nat} (hv : v = if went then 1 else 0) (hd : 1 < d) (hw : lk 1000 = some 2000) (hr : r + 43 ≤ 1247) {g0 : zH} (wf : zWF g0) (h6 : g0 6 ≤ 1000000) (q : ∀ mem', zHB mem' (2000 + r) (va_up (zages went g0 (g0 0)) 6 (g0 6 + 1)) → zfr mem mem' (2000 + r) → Q none mem') : ∀ n i m1, i + n = g0 0 → zHB m1 (2000 + r) (zages went g0 i) → zfr mem m1 (2000 + r) → zE X d 163 2 [.ref 1000, .int (nI r), .int (nI v), .int (nI i)] [] m1 lk L lk L Q := by
  have w0 := wf.1
  intro n
  induction n with
  | zero =>
    intro i m1 hi hb hf
    have n00 : zages went g0 i 0 = g0 0 := zages_0 (by omega) i
    have n6 : zages went g0 i 6 = g0 6 := zages_0 (by omega) i
    have e0 := hb.r1 hr (k := 0) (by omega)
    have e6 := hb.r1 hr (k := 6) (by omega)
    have ea : 2000 + (nI r + nI 6).toNatClampNeg = 2000 + r + 6 := by rw [zw1 (by omega)]; omega
    refine zE_do 40 2 (tbl := tX8_cools) zck_163 rfl (h := ?_)
    refine ⟨rfl, _, hw, Or.inl rfl, zwi1 (by omega), fun c => ⟨rfl, _, hw, Or.inl rfl, zwi1 (by omega), rfl, zwi1 (by omega), rfl, rfl, ?_⟩, fun c => ?_⟩
    · show Q none (upd m1 (2000 + (nI r + nI 6).toNatClampNeg) (m1 (2000 + (nI r + nI 6).toNatClampNeg) + nI 1))
      refine q _ ?_ (hf.tr (zfr.up (by omega) (by omega)))
      rw [e6, n6, nI_add (g0 6) 1]
      rw [show i = g0 0 by omega] at hb
      exact hb.set 6 _ (by omega) ea
    · exfalso
      have c : ¬ m1 (2000 + (nI r + nI 0).toNatClampNeg) ≤ nI i := c
      rw [e0, n00, nLe (by omega) (by omega)] at c
      omega
  | succ n ih =>
    intro i m1 hi hb hf
    have n00 : zages went g0 i 0 = g0 0 := zages_0 (by omega) i
    have wi := zages_wf (went := went) wf i (by omega)
    have k := ih (i + 1)
    have hnext : zages went g0 (i + 1) = if zages went g0 i (13 + i) = 11 then zages went g0 i else zage (zages went g0 i) i (went ∧ zages went g0 i (13 + i) = 10) := rfl
    rw [hnext, ← nI_1] at k
    generalize zages went g0 i = gi at hb n00 wi k
    have hie : i < gi 0 := by omega
    have w11 := wi.at11 i hie
    have e0 := hb.r1 hr (k := 0) (by omega)
    have e1 := hb.ra hr wi.1 hie
    refine zE_do 40 2 (tbl := tX8_cools) zck_163 rfl (h := ?_)
    refine ⟨rfl, _, hw, Or.inl rfl, zwi1 (by omega), fun c => ?_, fun c => ⟨rfl, _, hw, Or.inl rfl, zwi2 (by omega), fun c2 => ?_, fun c2 => ⟨rfl, ?_⟩⟩⟩
    · exfalso
      have c : m1 (2000 + (nI r + nI 0).toNatClampNeg) ≤ nI i := c
      rw [e0, n00, nLe (by omega) (by omega)] at c
      omega
    · have c2 : m1 (2000 + (nI r + nI 13 + nI i).toNatClampNeg) = nI 11 := c2
      rw [e1, nEq (by omega) (by omega)] at c2
      exact k m1 (by omega) (by rw [if_pos c2]; exact hb) hf
    · have c2 : ¬ m1 (2000 + (nI r + nI 13 + nI i).toNatClampNeg) = nI 11 := c2
      rw [e1, nEq (by omega) (by omega)] at c2
      exact ok_mcoolsOne (went := went) (by omega) hv hw hr hb wi hie (fun m2 hb2 hf2 => k m2 (by omega) (by rw [if_neg c2]; exact hb2) (hf.tr hf2))
theorem ok_mcools {went : Prop} [Decidable went] {v : Nat} (hv : v = if went then 1 else 0) (hd : 1 < d) (hw : lk 1000 = some 2000) (hr : r + 43 ≤ 1247) (hb : zHB mem (2000 + r) g) (wf : zWF g) (h6 : g 6 ≤ 1000000) (q : ∀ mem', zHB mem' (2000 + r) (va_up (zages went g (g 0)) 6 (g 6 + 1)) → zfr mem mem' (2000 + r) → Q none mem') : zOk X d 163 [.ref 1000, .int (nI r), .int (nI v)] mem lk L lk L Q := by
  refine zOk_do 20 (tbl := tX8_cools) zck_163 rfl (by omega) (h := ?_)
  exact mcools_loop hv hd hw hr wf h6 q (g 0) 0 mem (by omega) hb zfr.rf
/-- a minute of a row -/
theorem ok_mpasses {ord : Nat → Nat} (hd : 3 < d) (hw : lk 1000 = some 2000) (hr : r + 43 ≤ 1247) (hb : zHB mem (2000 + r) g) (wf : zWF g) (h6 : g 6 ≤ 1000000) (ho : zRk mem (2000 + r) ord (g 0)) (q : ∀ mem', zHB mem' (2000 + r) (zpass ord g) → zfr mem mem' (2000 + r) → Q none mem') : zOk X d 165 [.ref 1000, .int (nI r)] mem lk L lk L Q := by
  have w0 := wf.1
  have wl := zlets_wf wf (g 0) w0
  have l0 : zlets g (g 0) 0 = g 0 := zlets_ne (by omega) _ w0
  have l6 : zlets g (g 0) 6 = g 6 := zlets_ne (by omega) _ w0
  have wt := ztakes_wf (ord := ord) wl (g 0)
  have t0 : ztakes ord (zlets g (g 0)) (g 0) 0 = g 0 := by rw [ztakes_ne (by omega) (by omega)]; exact l0
  have t6 : ztakes ord (zlets g (g 0)) (g 0) 6 = g 6 := by rw [ztakes_ne (by omega) (by omega)]; exact l6
  unfold zpass at q
  dsimp only at q
  have wm := zmove_wf wt
  have m0 : zmove (ztakes ord (zlets g (g 0)) (g 0)) 0 = g 0 := by rw [zmove_ne (by omega) (by omega)]; exact t0
  have m6 : zmove (ztakes ord (zlets g (g 0)) (g 0)) 6 = g 6 := by rw [zmove_ne (by omega) (by omega)]; exact t6
  rw [zages_0 (by omega), m6] at q
  refine zOk_do 40 (tbl := tX8_passes) zck_165 rfl (by omega) (h := ?_)
  refine ⟨rfl, ok_mserves (by omega) hw hr hb wf ho (fun m1 hb1 hf1 => ⟨rfl, ?_⟩)⟩
  refine ok_mgoes (by omega) hw hr hb1 wt (fun hz m3 hb3 hf3 => ⟨rfl, ?_⟩) (fun hz => ⟨rfl, ?_⟩)
  · exact ok_mcools (went := zcalled (ztakes ord (zlets g (g 0)) (g 0)) ≠ 0) (v := 1) (by rw [if_pos hz]) (by omega) hw hr hb3 wm (by omega) (by rw [m0, m6]; exact fun m4 hb4 hf4 => ⟨rfl, rfl, q m4 hb4 ((hf1.tr hf3).tr hf4)⟩)
  · have hmv : zmove (ztakes ord (zlets g (g 0)) (g 0)) = ztakes ord (zlets g (g 0)) (g 0) := by unfold zmove; rw [if_pos hz]
    exact ok_mcools (went := zcalled (ztakes ord (zlets g (g 0)) (g 0)) ≠ 0) (v := 0) (by rw [if_neg (fun z => z hz)]) (by omega) hw hr (by rw [← hmv] at hb1; exact hb1) wm (by omega) (by rw [m0, m6]; exact fun m4 hb4 hf4 => ⟨rfl, rfl, q m4 hb4 (hf1.tr hf4)⟩)
end MP
