/-! dish, car: of the class and of the reference -/
def zdishA (g : zH) (e : Nat) (w : Int32) : Int32 := if w = nI 0 then nI (g (13 + e)) else if w = nI 1 then nI (g (19 + e)) else if w = nI 2 then nI (g (25 + e)) else if w = nI 3 then nI (g (31 + e)) else if w = nI 4 then (if zgood (g (7 + e)) (g (31 + e)) then nI 1 else nI 0) else -(nI 1000001)
def zcarA (g : zH) (w : Int32) : Int32 := if w = nI 0 then nI (g 1) else if w = nI 1 then nI (g 4) else if w = nI 2 then nI (g 5) else if w = nI 3 then nI (g 2) else if w = nI 4 then nI (g 3) else if w = nI 5 then nI (zbits g 10 (g 0)) else if w = nI 6 then nI (zbits g 11 (g 0)) else if w = nI 7 then nI (zcalled g) else if w = nI 8 then nI (zsum g 25 (zbits g 10 (g 0)) (g 0)) else -(nI 1000001)
theorem zbits64 {g : zH} {p : Nat} (h : g 0 ≤ 6) : zbits g p (g 0) < 64 := Nat.lt_of_lt_of_le (zbits_lt g p (g 0) (by omega)) (show 2 ^ g 0 ≤ 2 ^ 6 from Nat.pow_le_pow_right (by omega) h)
section RD
variable {X d : Nat} {mem : zMem} {lk : zLk} {L : List Nat} {Q : Option Value → zMem → Prop} {g : zH}
theorem ok_dish {x w : Int32} (hd : 3 < d) (hk : zKs lk) (hh : zHo lk 10000) (hb : zHB mem 10000 g) (hN : zNow g) (hS : zSt mem) (qB : (x.toInt < 0 ∨ (g 0 : Int) ≤ x.toInt) → Q (some (.int (-(nI 1000001)))) mem) (q : ∀ e, e < g 0 → x = nI e → Q (some (.int (zdishA g e w))) mem) : zOk X d 104 [.ref 100, .int x, .int w] mem lk L lk L Q := by
  refine zOk_do 80 (tbl := tX7_dish) zck_104 rfl (by omega) (h := ?_)
  refine ⟨rfl, _, hk.at 102 10000, by rw [hh.k3]; rfl, ok_isDish (by omega) hh hb hN.le.1 (fun e he ex => zT_ne ?_) (fun c => zF_ne ⟨rfl, rfl, qB c⟩)⟩
  have wf := (hN.wf (by omega)).1
  have w0 := wf.1
  have p := q e he ex
  subst ex
  unfold zdishA at p
  have ea : mem (10000 + (7 + 6 * 1) + (nI e).toNatClampNeg) = nI (g (13 + e)) := by rw [nC (by omega)]; exact hb.at he
  have eb : mem (10000 + (7 + 6 * 2) + (nI e).toNatClampNeg) = nI (g (19 + e)) := by rw [nC (by omega)]; exact hb.to he
  have ec : mem (10000 + (7 + 6 * 3) + (nI e).toNatClampNeg) = nI (g (25 + e)) := by rw [nC (by omega)]; exact hb.wt he
  have ed : mem (10000 + (7 + 6 * 4) + (nI e).toNatClampNeg) = nI (g (31 + e)) := by rw [nC (by omega)]; exact hb.ht he
  refine ⟨fun c => ?_, fun c0 => ⟨fun c => ?_, fun c1 => ⟨fun c => ?_, fun c2 => ⟨fun c => ?_, fun c3 => ⟨fun c => ?_, fun c4 => ⟨rfl, rfl, ?_⟩⟩⟩⟩⟩⟩
  · rw [if_pos c, ← ea] at p
    exact ⟨rfl, _, hk.at 102 10000, hh.k3, _, hh.lk 1 (by omega), Or.inl (hh.ka 1 (by omega)), hh.inn (by omega), rfl, rfl, p⟩
  · rw [if_neg c0, if_pos c, ← eb] at p
    exact ⟨rfl, _, hk.at 102 10000, hh.k3, _, hh.lk 2 (by omega), Or.inl (hh.ka 2 (by omega)), hh.inn (by omega), rfl, rfl, p⟩
  · rw [if_neg c0, if_neg c1, if_pos c, ← ec] at p
    exact ⟨rfl, _, hk.at 102 10000, hh.k3, _, hh.lk 3 (by omega), Or.inl (hh.ka 3 (by omega)), hh.inn (by omega), rfl, rfl, p⟩
  · rw [if_neg c0, if_neg c1, if_neg c2, if_pos c, ← ed] at p
    exact ⟨rfl, _, hk.at 102 10000, hh.k3, _, hh.lk 4 (by omega), Or.inl (hh.ka 4 (by omega)), hh.inn (by omega), rfl, rfl, p⟩
  · rw [if_neg c0, if_neg c1, if_neg c2, if_neg c3, if_pos c] at p
    refine ⟨rfl, _, hk.at 102 10000, by rw [hh.k3]; rfl, ok_isGood (by omega) hS hh hb wf he (fun z => zT_eq ⟨rfl, rfl, ?_⟩) (fun z => zF_eq ⟨rfl, rfl, ?_⟩)⟩
    · rw [if_pos z] at p; exact p
    · rw [if_neg z] at p; exact p
  · rw [if_neg c0, if_neg c1, if_neg c2, if_neg c3, if_neg c4] at p; exact p
theorem ok_mdish {x w : Int32} (hd : 3 < d) (hk : zML lk) (hb : zHB mem 2000 g) (hN : zNow g) (qB : (x.toInt < 0 ∨ (g 0 : Int) ≤ x.toInt) → Q (some (.int (-(nI 1000001)))) mem) (q : ∀ e, e < g 0 → x = nI e → Q (some (.int (zdishA g e w))) mem) : zOk X d 178 [.ref 1000, .int x, .int w] mem lk L lk L Q := by
  refine zOk_do 80 (tbl := tX8_dish) zck_178 rfl (by omega) (h := ?_)
  refine ⟨rfl, ok_misDish (by omega) hk.1 hb hN.le.1 (fun e he ex => zT_ne ?_) (fun c => zF_ne ⟨rfl, rfl, qB c⟩)⟩
  have wf := (hN.wf (by omega)).1
  have w0 := wf.1
  obtain ⟨w1, -, -, -, w5⟩ := wf.2.2.2.2.2.2.2.2 e he
  have p := q e he ex
  subst ex
  unfold zdishA at p
  have e7 : mem (2000 + (nI 7 + nI e).toNatClampNeg) = nI (g (7 + e)) := by rw [zw1 (by omega), show 2000 + (7 + e) = 2000 + 7 + e by omega]; exact hb.kind he
  have ea : mem (2000 + (nI 13 + nI e).toNatClampNeg) = nI (g (13 + e)) := by rw [zw1 (by omega), show 2000 + (13 + e) = 2000 + 13 + e by omega]; exact hb.at he
  have eb : mem (2000 + (nI 19 + nI e).toNatClampNeg) = nI (g (19 + e)) := by rw [zw1 (by omega), show 2000 + (19 + e) = 2000 + 19 + e by omega]; exact hb.to he
  have ec : mem (2000 + (nI 25 + nI e).toNatClampNeg) = nI (g (25 + e)) := by rw [zw1 (by omega), show 2000 + (25 + e) = 2000 + 25 + e by omega]; exact hb.wt he
  have ed : mem (2000 + (nI 31 + nI e).toNatClampNeg) = nI (g (31 + e)) := by rw [zw1 (by omega), show 2000 + (31 + e) = 2000 + 31 + e by omega]; exact hb.ht he
  refine ⟨fun c => ?_, fun c0 => ⟨fun c => ?_, fun c1 => ⟨fun c => ?_, fun c2 => ⟨fun c => ?_, fun c3 => ⟨fun c => ?_, fun c4 => ⟨rfl, rfl, ?_⟩⟩⟩⟩⟩⟩
  · rw [if_pos c, ← ea] at p
    exact ⟨rfl, _, hk.1, Or.inl rfl, zwi1 (by omega), rfl, rfl, p⟩
  · rw [if_neg c0, if_pos c, ← eb] at p
    exact ⟨rfl, _, hk.1, Or.inl rfl, zwi1 (by omega), rfl, rfl, p⟩
  · rw [if_neg c0, if_neg c1, if_pos c, ← ec] at p
    exact ⟨rfl, _, hk.1, Or.inl rfl, zwi1 (by omega), rfl, rfl, p⟩
  · rw [if_neg c0, if_neg c1, if_neg c2, if_pos c, ← ed] at p
    exact ⟨rfl, _, hk.1, Or.inl rfl, zwi1 (by omega), rfl, rfl, p⟩
  · rw [if_neg c0, if_neg c1, if_neg c2, if_neg c3, if_pos c] at p
    refine ⟨rfl, _, hk.1, Or.inl rfl, zwi1 (by omega), rfl, _, hk.1, Or.inl rfl, zwi1 (by omega), ?_⟩
    rw [e7, ed]
    refine ok_misGood (by omega) (by omega) (by omega) (fun z => zT_eq ⟨rfl, rfl, ?_⟩) (fun z => zF_eq ⟨rfl, rfl, ?_⟩)
    · rw [if_pos z] at p; exact p
    · rw [if_neg z] at p; exact p
  · rw [if_neg c0, if_neg c1, if_neg c2, if_neg c3, if_neg c4] at p; exact p
theorem ok_car {w : Int32} (hd : 3 < d) (hk : zKs lk) (hh : zHo lk 10000) (hb : zHB mem 10000 g) (hN : zNow g) (qS : g 0 = 0 → Q (some (.int (-(nI 1000002)))) mem) (q : 0 < g 0 → Q (some (.int (zcarA g w))) mem) : zOk X d 105 [.ref 100, .int w] mem lk L lk L Q := by
  refine zOk_do 80 (tbl := tX7_car) zck_105 rfl (by omega) (h := ?_)
  refine ⟨rfl, _, hk.at 102 10000, by rw [hh.k3]; rfl, ok_stands (by omega) hh hb hN.le.1 (fun h0 => zT_ne ?_) (fun h0 => zF_ne ⟨rfl, rfl, qS h0⟩)⟩
  have wf := (hN.wf h0).1
  have w0 := wf.1
  have q := q h0
  unfold zcarA at q
  have e1 : mem (10000 + 1) = nI (g 1) := hb.k 1 (by omega)
  have e2 : mem (10000 + 2) = nI (g 2) := hb.k 2 (by omega)
  have e3 : mem (10000 + 3) = nI (g 3) := hb.k 3 (by omega)
  have e4 : mem (10000 + 4) = nI (g 4) := hb.k 4 (by omega)
  have e5 : mem (10000 + 5) = nI (g 5) := hb.k 5 (by omega)
  refine ⟨fun c => ?_, fun c0 => ⟨fun c => ?_, fun c1 => ⟨fun c => ?_, fun c2 => ⟨fun c => ?_, fun c3 => ⟨fun c => ?_, fun c4 => ⟨fun c => ?_, fun c5 => ⟨fun c => ?_, fun c6 => ⟨fun c => ?_, fun c7 => ⟨fun c => ?_, fun c8 => ⟨rfl, rfl, ?_⟩⟩⟩⟩⟩⟩⟩⟩⟩⟩
  · rw [if_pos c, ← e1] at q
    exact ⟨rfl, _, hk.at 102 10000, hh.k3, rfl, rfl, q⟩
  · rw [if_neg c0, if_pos c, ← e4] at q
    exact ⟨rfl, _, hk.at 102 10000, hh.k3, rfl, rfl, q⟩
  · rw [if_neg c0, if_neg c1, if_pos c, ← e5] at q
    exact ⟨rfl, _, hk.at 102 10000, hh.k3, rfl, rfl, q⟩
  · rw [if_neg c0, if_neg c1, if_neg c2, if_pos c, ← e2] at q
    exact ⟨rfl, _, hk.at 102 10000, hh.k3, rfl, rfl, q⟩
  · rw [if_neg c0, if_neg c1, if_neg c2, if_neg c3, if_pos c, ← e3] at q
    exact ⟨rfl, _, hk.at 102 10000, hh.k3, rfl, rfl, q⟩
  · rw [if_neg c0, if_neg c1, if_neg c2, if_neg c3, if_neg c4, if_pos c] at q
    exact ⟨rfl, _, hk.at 102 10000, by rw [hh.k3]; rfl, ok_those (by omega) hh hb w0 wf.at11 (by omega) ⟨rfl, rfl, q⟩⟩
  · rw [if_neg c0, if_neg c1, if_neg c2, if_neg c3, if_neg c4, if_neg c5, if_pos c] at q
    exact ⟨rfl, _, hk.at 102 10000, by rw [hh.k3]; rfl, ok_served (by omega) hh hb w0 wf.at11 ⟨rfl, rfl, q⟩⟩
  · rw [if_neg c0, if_neg c1, if_neg c2, if_neg c3, if_neg c4, if_neg c5, if_neg c6, if_pos c] at q
    exact ⟨rfl, _, hk.at 102 10000, by rw [hh.k3]; rfl, ok_called (by omega) hh hb wf ⟨rfl, rfl, q⟩⟩
  · rw [if_neg c0, if_neg c1, if_neg c2, if_neg c3, if_neg c4, if_neg c5, if_neg c6, if_neg c7, if_pos c] at q
    exact ⟨rfl, _, hk.at 102 10000, rfl, _, hk.at 102 10000, by rw [hh.k3]; rfl, ok_those (by omega) hh hb w0 wf.at11 (by omega) ⟨by rw [hh.k3]; rfl, ok_weightOf (by omega) hh hb wf (zbits64 w0) ⟨rfl, rfl, q⟩⟩⟩
  · rw [if_neg c0, if_neg c1, if_neg c2, if_neg c3, if_neg c4, if_neg c5, if_neg c6, if_neg c7, if_neg c8] at q; exact q
theorem ok_mcar {w : Int32} (hd : 3 < d) (hk : zML lk) (hb : zHB mem 2000 g) (hN : zNow g) (qS : g 0 = 0 → Q (some (.int (-(nI 1000002)))) mem) (q : 0 < g 0 → Q (some (.int (zcarA g w))) mem) : zOk X d 179 [.ref 1000, .int w] mem lk L lk L Q := by
  refine zOk_do 80 (tbl := tX8_car) zck_179 rfl (by omega) (h := ?_)
  refine ⟨rfl, ok_misHouse (by omega) hk.1 hb hN.le.1 (fun h0 => zT_ne ?_) (fun h0 => zF_ne ⟨rfl, rfl, qS h0⟩)⟩
  have wf := (hN.wf h0).1
  have w0 := wf.1
  have q := q h0
  unfold zcarA at q
  have e1 : mem (2000 + (nI 1).toNatClampNeg) = nI (g 1) := hb.k 1 (by omega)
  have e2 : mem (2000 + (nI 2).toNatClampNeg) = nI (g 2) := hb.k 2 (by omega)
  have e3 : mem (2000 + (nI 3).toNatClampNeg) = nI (g 3) := hb.k 3 (by omega)
  have e4 : mem (2000 + (nI 4).toNatClampNeg) = nI (g 4) := hb.k 4 (by omega)
  have e5 : mem (2000 + (nI 5).toNatClampNeg) = nI (g 5) := hb.k 5 (by omega)
  refine ⟨fun c => ?_, fun c0 => ⟨fun c => ?_, fun c1 => ⟨fun c => ?_, fun c2 => ⟨fun c => ?_, fun c3 => ⟨fun c => ?_, fun c4 => ⟨fun c => ?_, fun c5 => ⟨fun c => ?_, fun c6 => ⟨fun c => ?_, fun c7 => ⟨fun c => ?_, fun c8 => ⟨rfl, rfl, ?_⟩⟩⟩⟩⟩⟩⟩⟩⟩⟩
  · rw [if_pos c, ← e1] at q
    exact ⟨rfl, _, hk.1, Or.inl rfl, zwi0 (by omega), rfl, rfl, q⟩
  · rw [if_neg c0, if_pos c, ← e4] at q
    exact ⟨rfl, _, hk.1, Or.inl rfl, zwi0 (by omega), rfl, rfl, q⟩
  · rw [if_neg c0, if_neg c1, if_pos c, ← e5] at q
    exact ⟨rfl, _, hk.1, Or.inl rfl, zwi0 (by omega), rfl, rfl, q⟩
  · rw [if_neg c0, if_neg c1, if_neg c2, if_pos c, ← e2] at q
    exact ⟨rfl, _, hk.1, Or.inl rfl, zwi0 (by omega), rfl, rfl, q⟩
  · rw [if_neg c0, if_neg c1, if_neg c2, if_neg c3, if_pos c, ← e3] at q
    exact ⟨rfl, _, hk.1, Or.inl rfl, zwi0 (by omega), rfl, rfl, q⟩
  · rw [if_neg c0, if_neg c1, if_neg c2, if_neg c3, if_neg c4, if_pos c] at q
    exact ⟨rfl, ok_minsideOf (r := 0) (by omega) hk.1 (by omega) hb w0 wf.at11 ⟨rfl, rfl, q⟩⟩
  · rw [if_neg c0, if_neg c1, if_neg c2, if_neg c3, if_neg c4, if_neg c5, if_pos c] at q
    exact ⟨rfl, ok_mservedOf (r := 0) (by omega) hk.1 (by omega) hb w0 wf.at11 ⟨rfl, rfl, q⟩⟩
  · rw [if_neg c0, if_neg c1, if_neg c2, if_neg c3, if_neg c4, if_neg c5, if_neg c6, if_pos c] at q
    exact ⟨rfl, ok_mcalledOf (r := 0) (by omega) hk.1 (by omega) hb wf ⟨rfl, rfl, q⟩⟩
  · rw [if_neg c0, if_neg c1, if_neg c2, if_neg c3, if_neg c4, if_neg c5, if_neg c6, if_neg c7, if_pos c] at q
    exact ⟨rfl, ok_minsideOf (r := 0) (by omega) hk.1 (by omega) hb w0 wf.at11 ⟨rfl, ok_mweightOf (r := 0) (by omega) hk.1 (by omega) hb w0 (zbits64 w0) ⟨rfl, rfl, q⟩⟩⟩
  · rw [if_neg c0, if_neg c1, if_neg c2, if_neg c3, if_neg c4, if_neg c5, if_neg c6, if_neg c7, if_neg c8] at q; exact q
end RD
