/-! the law's loop -/
def zLp : List Nat := [196, 239, 282, 345, 368, 391, 404, 417, 430, 453, 476, 499, 522, 565, 598, 621, 664, 687, 710, 723, 746, 779, 812, 845, 868, 901, 934, 997, 1051, 1094, 1117, 1140, 1163, 1196, 1229, 1252, 1275]
theorem nSb {a b : Nat} (ha : a < 1000000) (hb : b < 1000000) : (nI a - nI b).toInt = (a : Int) - b := by
  rw [Int32.toInt_sub, nT (by omega), nT (by omega)]
  exact Int.bmod_eq_of_le (by omega) (by omega)
theorem law_none {v : Int32} : ∀ k, k < 37 → (¬ v = nI 0 ∧ ¬ v = nI 1 ∧ ¬ v = nI 2 ∧ ¬ v = nI 3 ∧ ¬ v = nI 4 ∧ ¬ v = nI 5 ∧ ¬ v = nI 6 ∧ ¬ v = nI 7 ∧ ¬ v = nI 8 ∧ ¬ v = nI 9 ∧ ¬ v = nI 10 ∧ ¬ v = nI 11 ∧ ¬ v = nI 12 ∧ ¬ v = nI 13 ∧ ¬ v = nI 14 ∧ ¬ v = nI 15 ∧ ¬ v = nI 16 ∧ ¬ v = nI 17 ∧ ¬ v = nI 18 ∧ ¬ v = nI 19 ∧ ¬ v = nI 20 ∧ ¬ v = nI 21 ∧ ¬ v = nI 22 ∧ ¬ v = nI 23 ∧ ¬ v = nI 24 ∧ ¬ v = nI 25 ∧ ¬ v = nI 26 ∧ ¬ v = nI 27 ∧ ¬ v = nI 28 ∧ ¬ v = nI 29 ∧ ¬ v = nI 30 ∧ ¬ v = nI 31 ∧ ¬ v = nI 32 ∧ ¬ v = nI 33 ∧ ¬ v = nI 34 ∧ ¬ v = nI 35 ∧ ¬ v = nI 36) → ¬ v = nI k
  | 0, _, h => h.1
  | 1, _, h => h.2.1
  | 2, _, h => h.2.2.1
  | 3, _, h => h.2.2.2.1
  | 4, _, h => h.2.2.2.2.1
  | 5, _, h => h.2.2.2.2.2.1
  | 6, _, h => h.2.2.2.2.2.2.1
  | 7, _, h => h.2.2.2.2.2.2.2.1
  | 8, _, h => h.2.2.2.2.2.2.2.2.1
  | 9, _, h => h.2.2.2.2.2.2.2.2.2.1
  | 10, _, h => h.2.2.2.2.2.2.2.2.2.2.1
  | 11, _, h => h.2.2.2.2.2.2.2.2.2.2.2.1
  | 12, _, h => h.2.2.2.2.2.2.2.2.2.2.2.2.1
  | 13, _, h => h.2.2.2.2.2.2.2.2.2.2.2.2.2.1
  | 14, _, h => h.2.2.2.2.2.2.2.2.2.2.2.2.2.2.1
  | 15, _, h => h.2.2.2.2.2.2.2.2.2.2.2.2.2.2.2.1
  | 16, _, h => h.2.2.2.2.2.2.2.2.2.2.2.2.2.2.2.2.1
  | 17, _, h => h.2.2.2.2.2.2.2.2.2.2.2.2.2.2.2.2.2.1
  | 18, _, h => h.2.2.2.2.2.2.2.2.2.2.2.2.2.2.2.2.2.2.1
  | 19, _, h => h.2.2.2.2.2.2.2.2.2.2.2.2.2.2.2.2.2.2.2.1
  | 20, _, h => h.2.2.2.2.2.2.2.2.2.2.2.2.2.2.2.2.2.2.2.2.1
  | 21, _, h => h.2.2.2.2.2.2.2.2.2.2.2.2.2.2.2.2.2.2.2.2.2.1
  | 22, _, h => h.2.2.2.2.2.2.2.2.2.2.2.2.2.2.2.2.2.2.2.2.2.2.1
  | 23, _, h => h.2.2.2.2.2.2.2.2.2.2.2.2.2.2.2.2.2.2.2.2.2.2.2.1
  | 24, _, h => h.2.2.2.2.2.2.2.2.2.2.2.2.2.2.2.2.2.2.2.2.2.2.2.2.1
  | 25, _, h => h.2.2.2.2.2.2.2.2.2.2.2.2.2.2.2.2.2.2.2.2.2.2.2.2.2.1
  | 26, _, h => h.2.2.2.2.2.2.2.2.2.2.2.2.2.2.2.2.2.2.2.2.2.2.2.2.2.2.1
  | 27, _, h => h.2.2.2.2.2.2.2.2.2.2.2.2.2.2.2.2.2.2.2.2.2.2.2.2.2.2.2.1
  | 28, _, h => h.2.2.2.2.2.2.2.2.2.2.2.2.2.2.2.2.2.2.2.2.2.2.2.2.2.2.2.2.1
  | 29, _, h => h.2.2.2.2.2.2.2.2.2.2.2.2.2.2.2.2.2.2.2.2.2.2.2.2.2.2.2.2.2.1
  | 30, _, h => h.2.2.2.2.2.2.2.2.2.2.2.2.2.2.2.2.2.2.2.2.2.2.2.2.2.2.2.2.2.2.1
  | 31, _, h => h.2.2.2.2.2.2.2.2.2.2.2.2.2.2.2.2.2.2.2.2.2.2.2.2.2.2.2.2.2.2.2.1
  | 32, _, h => h.2.2.2.2.2.2.2.2.2.2.2.2.2.2.2.2.2.2.2.2.2.2.2.2.2.2.2.2.2.2.2.2.1
  | 33, _, h => h.2.2.2.2.2.2.2.2.2.2.2.2.2.2.2.2.2.2.2.2.2.2.2.2.2.2.2.2.2.2.2.2.2.1
  | 34, _, h => h.2.2.2.2.2.2.2.2.2.2.2.2.2.2.2.2.2.2.2.2.2.2.2.2.2.2.2.2.2.2.2.2.2.2.1
  | 35, _, h => h.2.2.2.2.2.2.2.2.2.2.2.2.2.2.2.2.2.2.2.2.2.2.2.2.2.2.2.2.2.2.2.2.2.2.2.1
  | 36, _, h => h.2.2.2.2.2.2.2.2.2.2.2.2.2.2.2.2.2.2.2.2.2.2.2.2.2.2.2.2.2.2.2.2.2.2.2.2
  | k + 37, hk, _ => by omega
section LH
variable {X d i : Nat} {xs : Nat → Int32} {s : zSg} {mem : zMem} {lk lkf : zLk} {L Lf : List Nat} {Q : Option Value → zMem → Prop}
theorem law_in (hX : X ≤ 3072) (hi : i + 6 ≤ X) : vp_in (nI i) (ln X 5000) := vp_in_nI (show i < X by omega) (by rw [ln5]; omega)
set_option maxRecDepth 20000 in
theorem law_end (hX : X ≤ 3072) (hi : i < 4000) (h : X < i + 6) (q : lk = lkf ∧ L = Lf ∧ Q (some (.int (nI 1))) mem) : zE X d 225 18 (zLw (nI i)) [] mem lk L lkf Lf Q := by
  refine zgoc zLp 60 18 (tbl := tL_law) zck_225 rfl (h := ?_)
  refine ⟨⟨by decide, by decide⟩, fun c => ⟨q.1, q.2.1, rfl, q.2.2⟩, fun c => ?_⟩
  have c : ¬ nI X - nI 6 < nI i := c
  rw [i_lt, nSb (by omega) (by omega), nT (by omega)] at c
  omega
set_option maxRecDepth 20000 in
theorem law_head (hX : X ≤ 3072) (hi : i + 6 ≤ X) (hc : ∀ k, k < 37 → mem (5000 + (nI i).toNatClampNeg) &&& nI 63 = nI k → zE X d 225 (zLp.getD k 0) (zLw (nI i)) [] mem lk L lkf Lf Q)
    (hD : (∀ k, k < 37 → ¬ mem (5000 + (nI i).toNatClampNeg) &&& nI 63 = nI k) → zE X d 225 18 (zLw (nI i + nI 6)) [] mem lk L lkf Lf Q) : zE X d 225 18 (zLw (nI i)) [] mem lk L lkf Lf Q := by
  refine zgoc zLp 60 18 (tbl := tL_law) zck_225 rfl (h := ?_)
  refine ⟨⟨by decide, by decide⟩, fun c => ?_, fun c => ⟨Or.inr rfl, law_in hX hi, ?_⟩⟩
  · have c : nI X - nI 6 < nI i := c
    rw [i_lt, nSb (by omega) (by omega), nT (by omega)] at c
    omega
  · exact ⟨fun e => hc 0 (by omega) e, fun e0 => ⟨fun e => hc 1 (by omega) e, fun e1 => ⟨fun e => hc 2 (by omega) e, fun e2 => ⟨fun e => hc 3 (by omega) e, fun e3 => ⟨fun e => hc 4 (by omega) e, fun e4 => ⟨fun e => hc 5 (by omega) e, fun e5 => ⟨fun e => hc 6 (by omega) e, fun e6 => ⟨fun e => hc 7 (by omega) e, fun e7 => ⟨fun e => hc 8 (by omega) e, fun e8 => ⟨fun e => hc 9 (by omega) e, fun e9 => ⟨fun e => hc 10 (by omega) e, fun e10 => ⟨fun e => hc 11 (by omega) e, fun e11 => ⟨fun e => hc 12 (by omega) e, fun e12 => ⟨fun e => hc 13 (by omega) e, fun e13 => ⟨fun e => hc 14 (by omega) e, fun e14 => ⟨fun e => hc 15 (by omega) e, fun e15 => ⟨fun e => hc 16 (by omega) e, fun e16 => ⟨fun e => hc 17 (by omega) e, fun e17 => ⟨fun e => hc 18 (by omega) e, fun e18 => ⟨fun e => hc 19 (by omega) e, fun e19 => ⟨fun e => hc 20 (by omega) e, fun e20 => ⟨fun e => hc 21 (by omega) e, fun e21 => ⟨fun e => hc 22 (by omega) e, fun e22 => ⟨fun e => hc 23 (by omega) e, fun e23 => ⟨fun e => hc 24 (by omega) e, fun e24 => ⟨fun e => hc 25 (by omega) e, fun e25 => ⟨fun e => hc 26 (by omega) e, fun e26 => ⟨fun e => hc 27 (by omega) e, fun e27 => ⟨fun e => hc 28 (by omega) e, fun e28 => ⟨fun e => hc 29 (by omega) e, fun e29 => ⟨fun e => hc 30 (by omega) e, fun e30 => ⟨fun e => hc 31 (by omega) e, fun e31 => ⟨fun e => hc 32 (by omega) e, fun e32 => ⟨fun e => hc 33 (by omega) e, fun e33 => ⟨fun e => hc 34 (by omega) e, fun e34 => ⟨fun e => hc 35 (by omega) e, fun e35 => ⟨fun e => hc 36 (by omega) e, fun e36 => hD (fun k hk => law_none k hk ⟨e0, e1, e2, e3, e4, e5, e6, e7, e8, e9, e10, e11, e12, e13, e14, e15, e16, e17, e18, e19, e20, e21, e22, e23, e24, e25, e26, e27, e28, e29, e30, e31, e32, e33, e34, e35, e36⟩)⟩⟩⟩⟩⟩⟩⟩⟩⟩⟩⟩⟩⟩⟩⟩⟩⟩⟩⟩⟩⟩⟩⟩⟩⟩⟩⟩⟩⟩⟩⟩⟩⟩⟩⟩⟩⟩
theorem law_pick {k : Nat} (hX : X ≤ 3072) (hi : i + 6 ≤ X) (em : mem (5000 + (nI i).toNatClampNeg) &&& nI 63 = nI k) (hk : k < 37) (h : zE X d 225 (zLp.getD k 0) (zLw (nI i)) [] mem lk L lkf Lf Q) : zE X d 225 18 (zLw (nI i)) [] mem lk L lkf Lf Q := by
  refine law_head hX hi (fun k' hk' e => ?_) (fun c => absurd em (c k hk))
  rw [em, nEq (by omega) (by omega)] at e
  subst e; exact h
theorem cs_all (hX : X ≤ 3072) (hd : 50 < d) (hi : i + 6 ≤ X) : ∀ k, k < 37 → zCase X d i (zLp.getD k 0) xs s lk L
  | 0, _ => cs_0 hX hd hi
  | 1, _ => cs_1 hX hd hi
  | 2, _ => cs_2 hX hd hi
  | 3, _ => cs_3 hX hd hi
  | 4, _ => cs_4 hX hd hi
  | 5, _ => cs_5 hX hd hi
  | 6, _ => cs_6 hX hd hi
  | 7, _ => cs_7 hX hd hi
  | 8, _ => cs_8 hX hd hi
  | 9, _ => cs_9 hX hd hi
  | 10, _ => cs_10 hX hd hi
  | 11, _ => cs_11 hX hd hi
  | 12, _ => cs_12 hX hd hi
  | 13, _ => cs_13 hX hd hi
  | 14, _ => cs_14 hX hd hi
  | 15, _ => cs_15 hX hd hi
  | 16, _ => cs_16 hX hd hi
  | 17, _ => cs_17 hX hd hi
  | 18, _ => cs_18 hX hd hi
  | 19, _ => cs_19 hX hd hi
  | 20, _ => cs_20 hX hd hi
  | 21, _ => cs_21 hX hd hi
  | 22, _ => cs_22 hX hd hi
  | 23, _ => cs_23 hX hd hi
  | 24, _ => cs_24 hX hd hi
  | 25, _ => cs_25 hX hd hi
  | 26, _ => cs_26 hX hd hi
  | 27, _ => cs_27 hX hd hi
  | 28, _ => cs_28 hX hd hi
  | 29, _ => cs_29 hX hd hi
  | 30, _ => cs_30 hX hd hi
  | 31, _ => cs_31 hX hd hi
  | 32, _ => cs_32 hX hd hi
  | 33, _ => cs_33 hX hd hi
  | 34, _ => cs_34 hX hd hi
  | 35, _ => cs_35 hX hd hi
  | 36, _ => cs_36 hX hd hi
  | k + 37, h => by omega
theorem law_loop (hX : X ≤ 3072) (hd : 50 < d) : ∀ m i s lk L, i < 4000 → X < i + 6 * m + 6 → ∃ lkf Lf, L.length ≤ Lf.length ∧ zpot lkf Lf ≤ zpot lk L ∧ ∀ mem Q, zJ X xs s lk L mem → (∀ mem', Q (some (.int (nI 1))) mem') → zE X d 225 18 (zLw (nI i)) [] mem lk L lkf Lf Q
  | 0, i, s, lk, L, hi, h => ⟨lk, L, Nat.le_refl _, Nat.le_refl _, fun mem Q I q => law_end hX hi (by omega) ⟨rfl, rfl, q mem⟩⟩
  | m + 1, i, s, lk, L, hi, h => by
    by_cases c : X < i + 6
    · exact ⟨lk, L, Nat.le_refl _, Nat.le_refl _, fun mem Q I q => law_end hX hi c ⟨rfl, rfl, q mem⟩⟩
    · have c' : i + 6 ≤ X := by omega
      have e6 : zLw (nI i + nI 6) = zLw (nI (i + 6)) := by rw [nI_add]
      by_cases z : ∃ k, k < 37 ∧ xs i &&& nI 63 = nI k
      · obtain ⟨k, hk, ek⟩ := z
        obtain ⟨s', lk1, L1, l1, l2, H⟩ := cs_all (X := X) (d := d) (i := i) (xs := xs) (s := s) (lk := lk) (L := L) hX hd c' k hk
        obtain ⟨lkf, Lf, l3, l4, G⟩ := law_loop hX hd m (i + 6) s' lk1 L1 (by omega) (by omega)
        refine ⟨lkf, Lf, Nat.le_trans l1 l3, Nat.le_trans l4 l2, fun mem Q I q => ?_⟩
        have HH := H mem lkf Lf Q l3 I (fun mem' I' => by rw [e6]; exact G mem' Q I' q)
        have em : mem (5000 + (nI i).toNatClampNeg) &&& nI 63 = nI k := by
          rw [nC (by omega), I.2.2.2.2.2.2 i (by omega)]; exact ek
        -- default is not reached
        refine law_pick hX c' em hk HH
      · obtain ⟨lkf, Lf, l3, l4, G⟩ := law_loop hX hd m (i + 6) s lk L (by omega) (by omega)
        refine ⟨lkf, Lf, l3, l4, fun mem Q I q => ?_⟩
        refine law_head hX c' (fun k hk e => absurd ⟨k, hk, ?_⟩ z) (fun _ => by rw [e6]; exact G mem Q I q)
        rw [nC (by omega), I.2.2.2.2.2.2 i (by omega)] at e
        exact e
end LH
