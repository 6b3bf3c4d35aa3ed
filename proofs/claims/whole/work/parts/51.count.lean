/-! count -/
/-- a without b -/
def zan (a b : Nat) : Nat := a - (a &&& b)
theorem zan_t : ∀ a, a < 64 → ∀ b, b < 64 → nI a &&& (nI b ^^^ -(nI 1)) = nI (zan a b) ∧ zan a b ≤ a := by decide +kernel
theorem zan_pc : ∀ i, i < 6 → ∀ a, a < 2 ^ i → ∀ b, b < 2 ^ i → zpc (zan (zan (2 ^ (i + 1) - 1) a) b) = zpc (zan (zan (2 ^ i - 1) a) b) + 1 ∧ zpc (zan (zan (2 ^ (i + 1) - 1) (a ||| 2 ^ i)) b) = zpc (zan (zan (2 ^ i - 1) a) b) ∧ zpc (zan (zan (2 ^ (i + 1) - 1) a) (b ||| 2 ^ i)) = zpc (zan (zan (2 ^ i - 1) a) b) := by decide +kernel
theorem zwait_pc (g : zH) (hg : ∀ e, e < g 0 → g (13 + e) ≤ 11) : ∀ i, i ≤ g 0 → i ≤ 6 → zpc (zan (zan (2 ^ i - 1) (zbits g 11 i)) (zbits g 10 i)) = zwait g i
  | 0, _, _ => by show zpc (zan (zan 0 0) 0) = 0; decide
  | i + 1, h, h6 => by
    have ih := zwait_pc g hg i (by omega) (by omega)
    have h11 := hg i (by omega)
    obtain ⟨t1, t2, t3⟩ := zan_pc i (by omega) _ (zbits_lt g 11 i (by omega)) _ (zbits_lt g 10 i (by omega))
    show zpc (zan (zan (2 ^ (i + 1) - 1) (if g (13 + i) = 11 then zbits g 11 i ||| 2 ^ i else zbits g 11 i)) (if g (13 + i) = 10 then zbits g 10 i ||| 2 ^ i else zbits g 10 i)) = zwait g i + (if 10 ≤ g (13 + i) then 0 else 1)
    rw [← ih]
    by_cases a : g (13 + i) = 11
    · rw [if_pos a, if_neg (by omega), if_pos (by omega)]; exact t2
    · by_cases b : g (13 + i) = 10
      · rw [if_neg a, if_pos b, if_pos (by omega)]; exact t3
      · rw [if_neg a, if_neg b, if_neg (by omega)]; exact t1
theorem zall_bit (e n : Nat) (h : e < n) : (2 ^ n - 1) / 2 ^ e % 2 = 1 := by
  rw [← Nat.toNat_testBit, Nat.testBit_two_pow_sub_one, decide_eq_true h]; rfl
theorem zsum_all (g : zH) (f n : Nat) : ∀ i, i ≤ n → zsum g f (2 ^ n - 1) i = ztot g f i
  | 0, _ => rfl
  | i + 1, h => by
    show zsum g f (2 ^ n - 1) i + (2 ^ n - 1) / 2 ^ i % 2 * g (f + i) = ztot g f i + g (f + i)
    rw [zsum_all g f n i (by omega), zall_bit i n (by omega), Nat.one_mul]
def zcountA (rl : Nat → Nat) (g : zH) (u t : Nat) (w : Int32) : Int32 :=
  if w = nI 0 then nI (zrows rl 8) else if w = nI 1 then nI (g 0) else if w = nI 2 then nI (g 1) else if w = nI 3 then nI (g 6) else if w = nI 4 then nI (zwait g (g 0)) else if w = nI 5 then nI (zpc (zbits g 11 (g 0))) else if w = nI 6 then nI (ztot g 31 (g 0)) else if w = nI 7 then nI u else if w = nI 8 then nI t else -(nI 1000001)
section CT
variable {X d : Nat} {mem : zMem} {lk : zLk} {L : List Nat} {Q : Option Value → zMem → Prop} {g : zH} {rl rn : Nat → Nat} {ri : Nat → Int32}
theorem zNow.at11 {g : zH} (h : zNow g) : ∀ e, e < g 0 → g (13 + e) ≤ 11 := fun e he => (h.wf (by omega)).1.at11 e he
theorem ok_heatOf' {h b : Nat} (hd : 0 < d) (hh : zHo lk h) (hb : zHB mem h g) (hN : zNow g) (hbb : b < 64) (q : Q (some (.int (nI (zsum g 31 b (g 0))))) mem) : zOk X d 53 [.ref h, .int (nI b)] mem lk L lk L Q := by
  by_cases z : 0 < g 0
  · exact ok_heatOf hd hh hb (hN.wf z).1 hbb q
  · have c1 : mem (h + 0) ≤ nI 0 := by rw [hb.k 0 (by omega), nLe (by omega) (by omega)]; omega
    rw [show g 0 = 0 by omega] at q
    refine zOk_do 20 (tbl := tX3_heatOf) zck_53 rfl (by omega) (h := ?_)
    refine zE_do 30 4 (tbl := tX3_heatOf) zck_53 rfl (h := ?_)
    exact ⟨hh.k3, fun c => ⟨rfl, rfl, q⟩, fun c => absurd c1 c⟩
theorem ok_bitCount' {x : Int32} {b : Nat} (e : x = nI b) (hd : 0 < d) (hb : b < 64) (q : Q (some (.int (nI (zpc b)))) mem) : zOk X d 221 [.int x] mem lk L lk L Q := by
  subst e
  exact ok_bitCount hd hb q
theorem ok_count {u t : Nat} {w : Int32} (hd : 3 < d) (hk : zKs lk) (hh : zHo lk 10000) (hb : zHB mem 10000 g) (hN : zNow g) (hR : zCR mem rl rn ri) (ho : zRowOk rl rn) (hu : mem 662 = nI u) (ht : mem 531 = nI t) (q : Q (some (.int (zcountA rl g u t w))) mem) : zOk X d 126 [.ref 100, .int w] mem lk L lk L Q := by
  have w0 := hN.le.1
  have hp : 2 ^ g 0 ≤ 2 ^ 6 := Nat.pow_le_pow_right (by omega) w0
  have e0 : mem (10000 + 0) = nI (g 0) := hb.k 0 (by omega)
  have e1 : mem (10000 + 1) = nI (g 1) := hb.k 1 (by omega)
  have e6 : mem (10000 + 6) = nI (g 6) := hb.k 6 (by omega)
  have hu' : mem (660 + 2) = nI u := hu
  have ht' : mem (530 + 1) = nI t := ht
  unfold zcountA at q
  refine zOk_do 80 (tbl := tX7_count) zck_126 rfl (by omega) (h := ?_)
  refine ⟨fun c => ?_, fun c0 => ⟨fun c => ?_, fun c1 => ⟨fun c => ?_, fun c2 => ⟨fun c => ?_, fun c3 => ⟨fun c => ?_, fun c4 => ⟨fun c => ?_, fun c5 => ⟨fun c => ?_, fun c6 => ⟨fun c => ?_, fun c7 => ⟨fun c => ?_, fun c8 => ⟨rfl, rfl, ?_⟩⟩⟩⟩⟩⟩⟩⟩⟩⟩
  · rw [if_pos c] at q
    exact ⟨rfl, _, hk.at 100 120, rfl, ok_present (by omega) hk hR ho ⟨rfl, rfl, q⟩⟩
  · rw [if_neg c0, if_pos c, ← e0] at q
    exact ⟨rfl, _, hk.at 102 10000, hh.k3, rfl, rfl, q⟩
  · rw [if_neg c0, if_neg c1, if_pos c, ← e1] at q
    exact ⟨rfl, _, hk.at 102 10000, hh.k3, rfl, rfl, q⟩
  · rw [if_neg c0, if_neg c1, if_neg c2, if_pos c, ← e6] at q
    exact ⟨rfl, _, hk.at 102 10000, hh.k3, rfl, rfl, q⟩
  · rw [if_neg c0, if_neg c1, if_neg c2, if_neg c3, if_pos c] at q
    have h11 := zbits64 (g := g) (p := 11) w0
    have h10 := zbits64 (g := g) (p := 10) w0
    obtain ⟨t1, t2⟩ := zan_t (2 ^ g 0 - 1) (by omega) _ h11
    obtain ⟨t3, t4⟩ := zan_t _ (show zan (2 ^ g 0 - 1) (zbits g 11 (g 0)) < 64 by omega) _ h10
    refine ⟨rfl, _, hk.at 102 10000, by rw [hh.k3]; rfl, ok_all (by omega) hh hb w0 ⟨rfl, _, hk.at 102 10000, by rw [hh.k3]; rfl, ok_served (by omega) hh hb w0 hN.at11 ⟨rfl, _, hk.at 102 10000, by rw [hh.k3]; rfl, ok_those (by omega) hh hb w0 hN.at11 (by omega) ?_⟩⟩⟩
    refine ok_bitCount' (b := zan (zan (2 ^ g 0 - 1) (zbits g 11 (g 0))) (zbits g 10 (g 0))) (by rw [t1, t3]) (by omega) (by omega) ⟨rfl, rfl, ?_⟩
    rw [zwait_pc g hN.at11 (g 0) (Nat.le_refl _) w0]
    exact q
  · rw [if_neg c0, if_neg c1, if_neg c2, if_neg c3, if_neg c4, if_pos c] at q
    exact ⟨rfl, _, hk.at 102 10000, by rw [hh.k3]; rfl, ok_served (by omega) hh hb w0 hN.at11 (ok_bitCount (by omega) (zbits64 w0) ⟨rfl, rfl, q⟩)⟩
  · rw [if_neg c0, if_neg c1, if_neg c2, if_neg c3, if_neg c4, if_neg c5, if_pos c, ← zsum_all g 31 (g 0) (g 0) (Nat.le_refl _)] at q
    exact ⟨rfl, _, hk.at 102 10000, rfl, _, hk.at 102 10000, by rw [hh.k3]; rfl, ok_all (by omega) hh hb w0 ⟨by rw [hh.k3]; rfl, ok_heatOf' (by omega) hh hb hN (by omega) ⟨rfl, rfl, q⟩⟩⟩
  · rw [if_neg c0, if_neg c1, if_neg c2, if_neg c3, if_neg c4, if_neg c5, if_neg c6, if_pos c, ← hu'] at q
    exact ⟨rfl, _, hk.at 104 660, rfl, rfl, rfl, q⟩
  · rw [if_neg c0, if_neg c1, if_neg c2, if_neg c3, if_neg c4, if_neg c5, if_neg c6, if_neg c7, if_pos c, ← ht'] at q
    exact ⟨rfl, _, hk.at 101 530, rfl, rfl, rfl, q⟩
  · rw [if_neg c0, if_neg c1, if_neg c2, if_neg c3, if_neg c4, if_neg c5, if_neg c6, if_neg c7, if_neg c8] at q; exact q
theorem ok_mcount {u t : Nat} {w : Int32} (hd : 3 < d) (hk : zML lk) (hb : zHB mem 2000 g) (hN : zNow g) (hR : zMR mem rl rn ri) (ho : zRowOk rl rn) (hu : mem 1001 = nI u) (ht : mem 1003 = nI t) (q : Q (some (.int (zcountA rl g u t w))) mem) : zOk X d 219 [.ref 1000, .int w] mem lk L lk L Q := by
  have w0 := hN.le.1
  have e0 : mem (2000 + (nI 0).toNatClampNeg) = nI (g 0) := hb.k 0 (by omega)
  have e1 : mem (2000 + (nI 1).toNatClampNeg) = nI (g 1) := hb.k 1 (by omega)
  have e6 : mem (2000 + (nI 6).toNatClampNeg) = nI (g 6) := hb.k 6 (by omega)
  have hu' : mem (1000 + 1) = nI u := hu
  have ht' : mem (1000 + 3) = nI t := ht
  unfold zcountA at q
  refine zOk_do 80 (tbl := tX8_count) zck_219 rfl (by omega) (h := ?_)
  refine ⟨fun c => ?_, fun c0 => ⟨fun c => ?_, fun c1 => ⟨fun c => ?_, fun c2 => ⟨fun c => ?_, fun c3 => ⟨fun c => ?_, fun c4 => ⟨fun c => ?_, fun c5 => ⟨fun c => ?_, fun c6 => ⟨fun c => ?_, fun c7 => ⟨fun c => ?_, fun c8 => ⟨rfl, rfl, ?_⟩⟩⟩⟩⟩⟩⟩⟩⟩⟩
  · rw [if_pos c] at q
    exact ⟨rfl, ok_rowsThere (by omega) hk hR ho ⟨rfl, rfl, q⟩⟩
  · rw [if_neg c0, if_pos c, ← e0] at q
    exact ⟨rfl, _, hk.1, Or.inl rfl, zwi0 (by omega), rfl, rfl, q⟩
  · rw [if_neg c0, if_neg c1, if_pos c, ← e1] at q
    exact ⟨rfl, _, hk.1, Or.inl rfl, zwi0 (by omega), rfl, rfl, q⟩
  · rw [if_neg c0, if_neg c1, if_neg c2, if_pos c, ← e6] at q
    exact ⟨rfl, _, hk.1, Or.inl rfl, zwi0 (by omega), rfl, rfl, q⟩
  · rw [if_neg c0, if_neg c1, if_neg c2, if_neg c3, if_pos c] at q
    exact ⟨rfl, ok_waiting (by omega) hk hb w0 hN.at11 ⟨rfl, rfl, q⟩⟩
  · rw [if_neg c0, if_neg c1, if_neg c2, if_neg c3, if_neg c4, if_pos c] at q
    exact ⟨rfl, ok_mservedOf (r := 0) (by omega) hk.1 (by omega) hb w0 hN.at11 (ok_ones (by omega) (zbits64 w0) ⟨rfl, rfl, q⟩)⟩
  · rw [if_neg c0, if_neg c1, if_neg c2, if_neg c3, if_neg c4, if_neg c5, if_pos c] at q
    exact ⟨rfl, ok_mheatOf (r := 0) (by omega) hk.1 (by omega) hb w0 ⟨rfl, rfl, q⟩⟩
  · rw [if_neg c0, if_neg c1, if_neg c2, if_neg c3, if_neg c4, if_neg c5, if_neg c6, if_pos c, ← hu'] at q
    exact ⟨rfl, rfl, rfl, q⟩
  · rw [if_neg c0, if_neg c1, if_neg c2, if_neg c3, if_neg c4, if_neg c5, if_neg c6, if_neg c7, if_pos c, ← ht'] at q
    exact ⟨rfl, rfl, rfl, q⟩
  · rw [if_neg c0, if_neg c1, if_neg c2, if_neg c3, if_neg c4, if_neg c5, if_neg c6, if_neg c7, if_neg c8] at q; exact q
end CT
