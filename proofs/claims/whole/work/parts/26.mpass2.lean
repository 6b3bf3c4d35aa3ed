/-! the reference: calledOf, goes, coolsOne, cools, passes -/
theorem zHB.r1 {mem : zMem} {r : Nat} {g : zH} (hb : zHB mem (2000 + r) g) (hr : r + 43 ≤ 1247) {k : Nat} (hk : k < 7) : mem (2000 + (nI r + nI k).toNatClampNeg) = nI (g k) := by
  rw [zw1 (by omega), show 2000 + (r + k) = 2000 + r + k by omega]; exact hb.k k hk
theorem zHB.rk {mem : zMem} {r : Nat} {g : zH} (hb : zHB mem (2000 + r) g) (hr : r + 43 ≤ 1247) (h6 : g 0 ≤ 6) {e : Nat} (he : e < g 0) : mem (2000 + (nI r + nI 7 + nI e).toNatClampNeg) = nI (g (7 + e)) := by
  rw [zw2 (by omega), show 2000 + (r + 7 + e) = 2000 + r + 7 + e by omega]; exact hb.kind he
theorem zHB.ra {mem : zMem} {r : Nat} {g : zH} (hb : zHB mem (2000 + r) g) (hr : r + 43 ≤ 1247) (h6 : g 0 ≤ 6) {e : Nat} (he : e < g 0) : mem (2000 + (nI r + nI 13 + nI e).toNatClampNeg) = nI (g (13 + e)) := by
  rw [zw2 (by omega), show 2000 + (r + 13 + e) = 2000 + r + 13 + e by omega]; exact hb.at he
theorem zHB.rt {mem : zMem} {r : Nat} {g : zH} (hb : zHB mem (2000 + r) g) (hr : r + 43 ≤ 1247) (h6 : g 0 ≤ 6) {e : Nat} (he : e < g 0) : mem (2000 + (nI r + nI 19 + nI e).toNatClampNeg) = nI (g (19 + e)) := by
  rw [zw2 (by omega), show 2000 + (r + 19 + e) = 2000 + r + 19 + e by omega]; exact hb.to he
theorem zHB.rw {mem : zMem} {r : Nat} {g : zH} (hb : zHB mem (2000 + r) g) (hr : r + 43 ≤ 1247) (h6 : g 0 ≤ 6) {e : Nat} (he : e < g 0) : mem (2000 + (nI r + nI 25 + nI e).toNatClampNeg) = nI (g (25 + e)) := by
  rw [zw2 (by omega), show 2000 + (r + 25 + e) = 2000 + r + 25 + e by omega]; exact hb.wt he
theorem zHB.rh {mem : zMem} {r : Nat} {g : zH} (hb : zHB mem (2000 + r) g) (hr : r + 43 ≤ 1247) (h6 : g 0 ≤ 6) {e : Nat} (he : e < g 0) : mem (2000 + (nI r + nI 31 + nI e).toNatClampNeg) = nI (g (31 + e)) := by
  rw [zw2 (by omega), show 2000 + (r + 31 + e) = 2000 + r + 31 + e by omega]; exact hb.ht he
section MP
variable {X d : Nat} {mem : zMem} {lk : zLk} {L : List Nat} {Q : Option Value → zMem → Prop} {r : Nat} {g : zH}
theorem mcalled_loop (hw : lk 1000 = some 2000) (hr : r + 43 ≤ 1247) (hb : zHB mem (2000 + r) g) (wf : zWF g) (q : Q (some (.int (nI (zcalled g)))) mem) : ∀ n i v4, i + n = g 0 → zE X d 161 4 [.ref 1000, .int (nI r), .int (nI (zcal g i)), .int (nI i), v4] [] mem lk L lk L Q := by
  have w0 := wf.1
  have w1 := wf.2.2.1
  have w4 := wf.2.2.2.2.2.1
  have w3 := wf.2.2.2.2.1
  have e0 := hb.r1 hr (k := 0) (by omega)
  have e4 := hb.r1 hr (k := 4) (by omega)
  have e3 := hb.r1 hr (k := 3) (by omega)
  intro n
  induction n with
  | zero =>
    intro i v4 hi
    refine zE_do 60 4 (tbl := tX8_calledOf) zck_161 rfl (h := ?_)
    refine ⟨rfl, _, hw, Or.inl rfl, zwi1 (by omega), fun c => ⟨rfl, _, hw, Or.inl rfl, zwi1 (by omega), rfl, rfl, ?_⟩, fun c => ?_⟩
    · rw [show i = g 0 by omega]
      show Q (some (.int (nI (zcal g (g 0)) &&& (nI 1 <<< (mem (2000 + (nI r + nI 4).toNatClampNeg) &&& 31) ^^^ -(nI 1))))) mem
      rw [e4, zdel_t _ (by omega) _ (zcal_lt wf _ (Nat.le_refl _))]
      exact q
    · exfalso
      have c : ¬ mem (2000 + (nI r + nI 0).toNatClampNeg) ≤ nI i := c
      rw [e0, nLe (by omega) (by omega)] at c
      omega
  | succ n ih =>
    intro i v4 hi
    have hie : i < g 0 := by omega
    obtain ⟨-, b2, b3, b4, -⟩ := wf.2.2.2.2.2.2.2.2 i hie
    have k := fun v => ih (i + 1) v (by omega)
    rw [← nI_1] at k
    have e1 := hb.ra hr w0 hie
    have e2 := hb.rt hr w0 hie
    have e5 := hb.rw hr w0 hie
    have hlt := zcal_lt wf i (by omega)
    refine zE_do 60 4 (tbl := tX8_calledOf) zck_161 rfl (h := ?_)
    refine ⟨rfl, _, hw, Or.inl rfl, zwi1 (by omega), fun c => ?_, fun c => ⟨rfl, _, hw, Or.inl rfl, zwi2 (by omega), fun c2 => ⟨fun c3 => ?_, fun c3 => ⟨rfl, _, hw, Or.inl rfl, zwi2 (by omega), rfl, _, hw, Or.inl rfl, zwi1 (by omega), fun c4 => ?_, fun c4 => ?_⟩⟩, fun c2 => ⟨rfl, _, hw, Or.inl rfl, zwi2 (by omega), ?_⟩⟩⟩
    · exfalso
      have c : mem (2000 + (nI r + nI 0).toNatClampNeg) ≤ nI i := c
      rw [e0, nLe (by omega) (by omega)] at c
      omega
    · have c2 : ¬ mem (2000 + (nI r + nI 13 + nI i).toNatClampNeg) = nI 10 := c2
      have c3 : nI 10 ≤ mem (2000 + (nI r + nI 13 + nI i).toNatClampNeg) := c3
      rw [e1, nEq (by omega) (by omega)] at c2
      rw [e1, nLe (by omega) (by omega)] at c3
      rw [show zcal g (i + 1) = zcal g i by rw [zcal, if_neg c2, if_neg (fun z => by have := z.1; omega)], ← zor0 (nI (zcal g i))] at k
      exact k _
    · have c2 : ¬ mem (2000 + (nI r + nI 13 + nI i).toNatClampNeg) = nI 10 := c2
      rw [e1, nEq (by omega) (by omega)] at c2
      have c4 : mem (2000 + (nI r + nI 3).toNatClampNeg) < mem (2000 + (nI r + nI 25 + nI i).toNatClampNeg) := c4
      rw [e3, e5, nLt (by omega) (by omega)] at c4
      rw [show zcal g (i + 1) = zcal g i by rw [zcal, if_neg c2, if_neg (fun z => by have := z.2; omega)], ← zor0 (nI (zcal g i))] at k
      exact k _
    · have c2 : ¬ mem (2000 + (nI r + nI 13 + nI i).toNatClampNeg) = nI 10 := c2
      have c3 : ¬ nI 10 ≤ mem (2000 + (nI r + nI 13 + nI i).toNatClampNeg) := c3
      rw [e1, nEq (by omega) (by omega)] at c2
      rw [e1, nLe (by omega) (by omega)] at c3
      have c4 : ¬ mem (2000 + (nI r + nI 3).toNatClampNeg) < mem (2000 + (nI r + nI 25 + nI i).toNatClampNeg) := c4
      rw [e3, e5, nLt (by omega) (by omega)] at c4
      rw [show zcal g (i + 1) = zcal g i ||| 2 ^ g (13 + i) by rw [zcal, if_neg c2, if_pos ⟨by omega, by omega⟩], ← zor_t (g (13 + i)) (by omega) _ hlt, ← e1] at k
      exact k _
    · have c2 : mem (2000 + (nI r + nI 13 + nI i).toNatClampNeg) = nI 10 := c2
      rw [e1, nEq (by omega) (by omega)] at c2
      rw [show zcal g (i + 1) = zcal g i ||| 2 ^ g (19 + i) by rw [zcal, if_pos c2], ← zor_t (g (19 + i)) (by omega) _ hlt, ← e2] at k
      exact k _
theorem ok_mcalledOf (hd : 0 < d) (hw : lk 1000 = some 2000) (hr : r + 43 ≤ 1247) (hb : zHB mem (2000 + r) g) (wf : zWF g) (q : Q (some (.int (nI (zcalled g)))) mem) : zOk X d 161 [.ref 1000, .int (nI r)] mem lk L lk L Q := by
  refine zOk_do 20 (tbl := tX8_calledOf) zck_161 rfl (by omega) (h := ?_)
  exact mcalled_loop hw hr hb wf q (g 0) 0 _ (by omega)
theorem mgoes_end {v2 v3 v4 : Value} (hw : lk 1000 = some 2000) (hr : r + 43 ≤ 1247) (hb : zHB mem (2000 + r) g) (w5 : g 5 ≤ 1) (h0 : g 5 = 0 → 1 ≤ g 4) (h4 : g 4 < 1000) (q : ∀ mem', zHB mem' (2000 + r) (va_up g 4 (if g 5 = 1 then g 4 + 1 else g 4 - 1)) → zfr mem mem' (2000 + r) → Q (some (.int (nI 1))) mem') : zE X d 162 97 [.ref 1000, .int (nI r), v2, v3, v4] [] mem lk L lk L Q := by
  have e4 := hb.r1 hr (k := 4) (by omega)
  have e5 := hb.r1 hr (k := 5) (by omega)
  have ea : 2000 + (nI r + nI 4).toNatClampNeg = 2000 + r + 4 := by rw [zw1 (by omega)]; omega
  refine zE_do 60 97 (tbl := tX8_goes) zck_162 rfl (h := ?_)
  refine ⟨rfl, _, hw, Or.inl rfl, zwi1 (by omega), rfl, _, hw, Or.inl rfl, zwi1 (by omega), fun c => ⟨rfl, zwi1 (by omega), rfl, rfl, rfl, ?_⟩, fun c => ⟨rfl, zwi1 (by omega), rfl, rfl, rfl, ?_⟩⟩
  · have c : ¬ mem (2000 + (nI r + nI 5).toNatClampNeg) = nI 1 := c
    rw [e5, nEq (by omega) (by omega)] at c
    show Q (some (.int (nI 1))) (upd mem (2000 + (nI r + nI 4).toNatClampNeg) (mem (2000 + (nI r + nI 4).toNatClampNeg) + -(nI 1)))
    refine q _ ?_ (zfr.up (by omega) (by omega))
    rw [e4, if_neg c, nm1 (h0 (by omega))]
    exact hb.set 4 _ (by omega) ea
  · have c : mem (2000 + (nI r + nI 5).toNatClampNeg) = nI 1 := c
    rw [e5, nEq (by omega) (by omega)] at c
    show Q (some (.int (nI 1))) (upd mem (2000 + (nI r + nI 4).toNatClampNeg) (mem (2000 + (nI r + nI 4).toNatClampNeg) + nI 1))
    refine q _ ?_ (zfr.up (by omega) (by omega))
    rw [e4, if_pos c, nI_add (g 4) 1]
    exact hb.set 4 _ (by omega) ea
theorem mgoes_mid {v2 : Value} {a b : Nat} (hw : lk 1000 = some 2000) (hr : r + 43 ≤ 1247) (hb : zHB mem (2000 + r) g) (wf : zWF g) (hz : zcalled g ≠ 0) (ha : a = if zcalled g / 2 ^ g 4 = 0 then 0 else 1) (hb' : b = if zcalled g % 2 ^ g 4 = 0 then 0 else 1) (q : ∀ mem', zHB mem' (2000 + r) (zmove g) → zfr mem mem' (2000 + r) → Q (some (.int (nI 1))) mem') : zE X d 162 55 [.ref 1000, .int (nI r), v2, .int (nI a), .int (nI b)] [] mem lk L lk L Q := by
  have w1 := wf.2.2.1
  have w4 := wf.2.2.2.2.2.1
  have w5 := wf.2.2.2.2.2.2.1
  obtain ⟨k1, k2, k3⟩ := zway_ok wf hz
  have hmv : zmove g = va_up (va_up g 5 (zway g)) 4 (if zway g = 1 then g 4 + 1 else g 4 - 1) := by unfold zmove; rw [if_neg hz]
  rw [hmv] at q
  have e5 := hb.r1 hr (k := 5) (by omega)
  have ea : 2000 + (nI r + nI 5).toNatClampNeg = 2000 + r + 5 := by rw [zw1 (by omega)]; omega
  have key : ∀ w, w = zway g → zE X d 162 97 [.ref 1000, .int (nI r), v2, .int (nI a), .int (nI b)] [] (upd mem (2000 + (nI r + nI 5).toNatClampNeg) (nI w)) lk L lk L Q := fun w hwz => by
    subst hwz
    exact mgoes_end (g := va_up g 5 (zway g)) hw hr (hb.set 5 _ (by omega) ea) (by rw [zup_eq]; exact k1) (fun z => by rw [zup_eq] at z; rw [zup_ne (by omega)]; exact k3 z) (by rw [zup_ne (by omega)]; omega) (fun m2 hb2 hf2 => q m2 (by rw [zup_eq, zup_ne (by omega)] at hb2; exact hb2) ((zfr.up (by omega) (by omega)).tr hf2))
  have la : a ≤ 1 := by rw [ha]; split <;> omega
  have lb : b ≤ 1 := by rw [hb']; split <;> omega
  refine zgoc [97] 60 55 (tbl := tX8_goes) zck_162 rfl (h := ?_)
  refine ⟨rfl, _, hw, rfl, _, hw, Or.inl rfl, zwi1 (by omega), fun c => ⟨fun c2 => ⟨rfl, zwi1 (by omega), key 1 ?_⟩, fun c2 => ⟨rfl, zwi1 (by omega), key 0 ?_⟩⟩, fun c => ⟨fun c2 => ⟨rfl, zwi1 (by omega), key 0 ?_⟩, fun c2 => ⟨rfl, zwi1 (by omega), key 1 ?_⟩⟩⟩
  · have c : ¬ mem (2000 + (nI r + nI 5).toNatClampNeg) = nI 1 := c
    rw [e5, nEq (by omega) (by omega)] at c
    have c2 : nI b = 0 := c2
    rw [n0 (by omega), hb'] at c2
    unfold zway; rw [if_neg c]; split at c2 <;> first | omega | (rw [if_pos (by assumption)])
  · have c : ¬ mem (2000 + (nI r + nI 5).toNatClampNeg) = nI 1 := c
    rw [e5, nEq (by omega) (by omega)] at c
    have c2 : ¬ nI b = 0 := c2
    rw [n0 (by omega), hb'] at c2
    unfold zway; rw [if_neg c]; split at c2 <;> first | omega | (rw [if_neg (by assumption)])
  · have c : mem (2000 + (nI r + nI 5).toNatClampNeg) = nI 1 := c
    rw [e5, nEq (by omega) (by omega)] at c
    have c2 : nI a = 0 := c2
    rw [n0 (by omega), ha] at c2
    unfold zway; rw [if_pos c]; split at c2 <;> first | omega | (rw [if_pos (by assumption)])
  · have c : mem (2000 + (nI r + nI 5).toNatClampNeg) = nI 1 := c
    rw [e5, nEq (by omega) (by omega)] at c
    have c2 : ¬ nI a = 0 := c2
    rw [n0 (by omega), ha] at c2
    unfold zway; rw [if_pos c]; split at c2 <;> first | omega | (rw [if_neg (by assumption)])
theorem ok_mgoes (hd : 1 < d) (hw : lk 1000 = some 2000) (hr : r + 43 ≤ 1247) (hb : zHB mem (2000 + r) g) (wf : zWF g) (q1 : zcalled g ≠ 0 → ∀ mem', zHB mem' (2000 + r) (zmove g) → zfr mem mem' (2000 + r) → Q (some (.int (nI 1))) mem') (q0 : zcalled g = 0 → Q (some (.int (nI 0))) mem) : zOk X d 162 [.ref 1000, .int (nI r)] mem lk L lk L Q := by
  have w1 := wf.2.2.1
  have w4 := wf.2.2.2.2.2.1
  have hlt := zcalled_lt wf
  have e4 := hb.r1 hr (k := 4) (by omega)
  have hm := Nat.mod_le (zcalled g) (2 ^ g 4)
  have hv := Nat.div_le_self (zcalled g) (2 ^ g 4)
  refine zOk_doc [31] 40 (tbl := tX8_goes) zck_162 rfl (by omega) (h := ?_)
  refine ⟨rfl, ok_mcalledOf (by omega) hw hr hb wf ⟨fun c => ?_, fun c => ⟨rfl, rfl, rfl, ?_⟩⟩⟩
  · have c : ¬ nI (zcalled g) = 0 := c
    rw [n0 (by omega)] at c
    have key : ∀ a, (a = if zcalled g / 2 ^ g 4 = 0 then 0 else 1) → ∀ v4, zE X d 162 31 [.ref 1000, .int (nI r), .int (nI (zcalled g)), .int (nI a), v4] [] mem lk L lk L Q := fun a ha v4 => by
      refine zgoc [55] 60 31 (tbl := tX8_goes) zck_162 rfl (h := ?_)
      refine ⟨rfl, _, hw, Or.inl rfl, zwi1 (by omega), fun c2 => mgoes_mid (b := 0) hw hr hb wf c ha ?_ (q1 c), fun c2 => mgoes_mid (b := 1) hw hr hb wf c ha ?_ (q1 c)⟩
      · have c2 : nI (zcalled g) &&& (nI 1 <<< (mem (2000 + (nI r + nI 4).toNatClampNeg) &&& 31) - nI 1) ≤ 0 := c2
        rw [e4, zblw_t _ (by omega) _ hlt, show (0 : Int32) = nI 0 from rfl, nLe (by omega) (by omega)] at c2
        rw [if_pos (by omega)]
      · have c2 : ¬ nI (zcalled g) &&& (nI 1 <<< (mem (2000 + (nI r + nI 4).toNatClampNeg) &&& 31) - nI 1) ≤ 0 := c2
        rw [e4, zblw_t _ (by omega) _ hlt, show (0 : Int32) = nI 0 from rfl, nLe (by omega) (by omega)] at c2
        rw [if_neg (by omega)]
    refine ⟨rfl, _, hw, Or.inl rfl, zwi1 (by omega), fun c2 => key 0 ?_ _, fun c2 => key 1 ?_ _⟩
    · have c2 : nI (zcalled g) >>> (mem (2000 + (nI r + nI 4).toNatClampNeg) &&& 31) ≤ 0 := c2
      rw [e4, zabv_t _ (by omega) _ hlt, show (0 : Int32) = nI 0 from rfl, nLe (by omega) (by omega)] at c2
      rw [if_pos (Nat.le_zero.mp c2)]
    · have c2 : ¬ nI (zcalled g) >>> (mem (2000 + (nI r + nI 4).toNatClampNeg) &&& 31) ≤ 0 := c2
      rw [e4, zabv_t _ (by omega) _ hlt, show (0 : Int32) = nI 0 from rfl, nLe (by omega) (by omega)] at c2
      rw [if_neg (by omega)]
  · have c : nI (zcalled g) = 0 := c
    rw [n0 (by omega)] at c
    exact q0 c
end MP
