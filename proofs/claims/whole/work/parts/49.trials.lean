/-! DishLift$Foretold: goodFrom, servesAll -/
section TR
variable {X d : Nat} {mem : zMem} {lk : zLk} {L : List Nat} {Q : Option Value → zMem → Prop} {g : zH}
theorem zfine64 {g : zH} (h : g 0 ≤ 6) : zfine g (g 0) < 64 := Nat.lt_of_lt_of_le (zfine_lt g (g 0) (by omega)) (show 2 ^ g 0 ≤ 2 ^ 6 from Nat.pow_le_pow_right (by omega) h)
theorem ok_goodFrom {f n : Nat} (hn : n ≤ 1000) (hd : 4 < d) (hk : zKs lk) (hh : zHo lk 10128) (ho : zHo lk 10000) (hb : zHB mem 10000 g) (wf : zWF g) (hf : f < g 1) (h6 : g 6 + n ≤ 999999) (hS : zSt mem) (q : ∀ mem', zfr mem mem' 10128 → Q (some (.int (nI (zpc (zfine (mnG n (va_up g 4 f)) (g 0)))))) mem') : zOk X d 17 [.ref 710, .ref 10000, .int (nI f), .int (nI n)] mem lk L lk L Q := by
  have w4 : zWF (va_up g 4 f) := wf.s4 hf
  have e6 : va_up g 4 f 6 = g 6 := zup_ne (by omega)
  have e0 : va_up g 4 f 0 = g 0 := zup_ne (by omega)
  obtain ⟨w1, w2, w3⟩ := mnG_wf n (va_up g 4 f) w4 (by omega)
  refine zOk_do 40 (tbl := tX2_goodFrom) zck_17 rfl (by omega) (h := ?_)
  refine ⟨rfl, _, hk.at 710 10128, by rw [hh.k3]; rfl, ok_become (by omega) hh ho (by omega) hb wf.1 (fun m1 hb1 f1 => ⟨rfl, _, hk.at 710 10128, hh.k3, rfl, ?_⟩)⟩
  have f2 : zfr m1 (upd m1 (10128 + 4) (nI f)) 10128 := zfr.up (by omega) (by omega)
  have hS2 : zSt (upd m1 (10128 + 4) (nI f)) := hS.fr (f1.tr f2) (Or.inl (by omega))
  refine ok_passTrial hn (by omega) hk hh (hb1.set 4 f (by omega) rfl) w4 (by omega) hS2 (fun m3 hb3 f3 => ⟨rfl, _, hk.at 710 10128, by rw [hh.k3]; rfl, ok_servedGood (by omega) (hS2.fr f3 (Or.inl (by omega))) hh hb3 w1 ?_⟩)
  have h64 := zfine64 (g := mnG n (va_up g 4 f)) w1.1
  refine ok_bitCount (by omega) h64 ⟨rfl, rfl, ?_⟩
  rw [w2, e0]
  exact q m3 ((f1.tr f2).tr f3)
theorem ok_servesAll {r s n : Nat} (hn : n ≤ 1000) (hd : 4 < d) (hk : zKs lk) (hh : zHo lk 10128) (ho : zHo lk 10000) (hb : zHB mem 10000 g) (wf : zWF g) (hr : 1 ≤ r ∧ r ≤ 4) (hs : 1 ≤ s ∧ s ≤ 40) (h6 : g 6 + n ≤ 999999) (hS : zSt mem)
    (q1 : zbits (mnG n (va_up (va_up g 2 r) 3 s)) 11 (g 0) = 2 ^ g 0 - 1 → ∀ mem', zfr mem mem' 10128 → Q (some (.int (nI 1))) mem') (q0 : ¬ zbits (mnG n (va_up (va_up g 2 r) 3 s)) 11 (g 0) = 2 ^ g 0 - 1 → ∀ mem', zfr mem mem' 10128 → Q (some (.int (nI 0))) mem') : zOk X d 20 [.ref 710, .ref 10000, .int (nI r), .int (nI s), .int (nI n)] mem lk L lk L Q := by
  have w4 : zWF (va_up (va_up g 2 r) 3 s) := (wf.s2 hr).s3 hs
  have e6 : va_up (va_up g 2 r) 3 s 6 = g 6 := by rw [zup_ne (by omega), zup_ne (by omega)]
  have e0 : va_up (va_up g 2 r) 3 s 0 = g 0 := by rw [zup_ne (by omega), zup_ne (by omega)]
  obtain ⟨w1, w2, w3⟩ := mnG_wf n (va_up (va_up g 2 r) 3 s) w4 (by omega)
  have w00 := wf.1
  have hp : 2 ^ g 0 ≤ 2 ^ 6 := Nat.pow_le_pow_right (by omega) w00
  refine zOk_do 60 (tbl := tX2_servesAll) zck_20 rfl (by omega) (h := ?_)
  refine ⟨rfl, _, hk.at 710 10128, by rw [hh.k3]; rfl, ok_become (by omega) hh ho (by omega) hb wf.1 (fun m1 hb1 f1 => ⟨rfl, _, hk.at 710 10128, hh.k3, rfl, _, hk.at 710 10128, hh.k3, rfl, ?_⟩)⟩
  have f2 : zfr m1 (upd (upd m1 (10128 + 2) (nI r)) (10128 + 3) (nI s)) 10128 := (zfr.up (by omega) (by omega)).tr (zfr.up (by omega) (by omega))
  have hS2 : zSt (upd (upd m1 (10128 + 2) (nI r)) (10128 + 3) (nI s)) := hS.fr (f1.tr f2) (Or.inl (by omega))
  refine ok_passTrial hn (by omega) hk hh ((hb1.set 2 r (by omega) rfl).set 3 s (by omega) rfl) w4 (by omega) hS2 (fun m3 hb3 f3 => ⟨rfl, _, hk.at 710 10128, by rw [hh.k3]; rfl, ok_served (by omega) hh hb3 w1.1 w1.at11 ⟨rfl, _, hk.at 710 10128, by rw [hh.k3]; rfl, ok_all (by omega) hh hb3 w1.1 ?_⟩⟩)
  have h64 := zbits64 (g := mnG n (va_up (va_up g 2 r) 3 s)) (p := 11) w1.1
  rw [w2, e0] at h64 ⊢
  refine ⟨fun c => ⟨rfl, rfl, rfl, q0 ?_ m3 ((f1.tr f2).tr f3)⟩, fun c => ⟨rfl, rfl, rfl, q1 ?_ m3 ((f1.tr f2).tr f3)⟩⟩
  · intro z
    exact c (by rw [z])
  · exact (nEq (by omega) (by omega)).mp c
end TR
