/-! stuck: casesServed, stuck -/
def zstA (e p n t : Nat) (g : zH) : Nat := if t = 0 then zcs e p n g / Nat.gcd (zcs e p n g) (10 ^ n) else 10 ^ n / Nat.gcd (zcs e p n g) (10 ^ n)
def zlnf0 (mem mem' : zMem) : Prop := ∀ x, ¬ (zLH 0 ≤ x ∧ x < zLH 9) → mem' x = mem x
section SU
variable {X d : Nat} {mem : zMem} {lk lkf : zLk} {L Lf : List Nat} {Q : Option Value → zMem → Prop} {g : zH}
theorem ok_casesServed {e n p : Nat} (hn : n ≤ 8) (hp : p ≤ 10) (hd : 24 < d) (hk : zKs lk) (hl : zLine lk L) (hh : zHo lk 10000) (hb : zHB mem 10000 g) (wf : zWF g) (he : e < g 0) (h6 : g 6 ≤ 999) (hS : zSt mem)
    (q : ∀ mem', zlnf0 mem mem' → Q (some (.long (lN (zcs e p n g)))) mem') : zOk X d 35 [.ref 710, .ref 10000, .int (nI e), .int (nI n), .int (nI p)] mem lk L (eK lk L (zrln e p n 0 g 1)) (eL lk L (zrln e p n 0 g 1)) Q := by
  have hz := zrln_le e p n hn n 0 g 1 (by omega) (by omega) (by omega)
  have hoH : zHo (eK lk L 1) (zLH 0) := (eK_lt hl 1 (by omega) (by omega)).2
  have hoN : zHo (eK lk L 1) 10000 := eK_ho (i := 0) hh (by omega) (by omega)
  have l0 := fun (d' : Nat) (Q' : Option Value → zMem → Prop) (hd' : 1 < d') q' => ok_lineAt (X := X) (d := d') (mem := mem) (Q := Q') (k := 0) (n := 0) rfl hd' (by omega) (by omega) (by omega) hk hl q'
  rw [show max 0 (0 + 1) = 1 from rfl] at l0
  refine zOk_goc [] 60 (tbl := tX2_casesServed) zck_35 rfl (by omega) (eL_le' (n := 0) (by omega)) (h := ?_)
  refine ⟨rfl, eK lk L 1, eL lk L 1, eL_le' hz.1, eL_le' (n := 0) (by omega), l0 _ _ (by omega) (fun m1 _ f1 => ⟨by rw [hoH.k3]; rfl, ok_become (by omega) hoH hoN (by unfold zLH; omega) (hb.same wf.1 (fun j hj => f1 _ (by unfold zLH; omega))) wf.1 (fun m2 hb2 f2 => ?_)⟩)⟩
  have F2 : zlnf0 mem m2 := fun x hx => by rw [f2 x (by unfold zLH at hx ⊢; omega), f1 x (by unfold zLH at hx ⊢; omega)]
  have hS2 : zSt m2 := ⟨fun i hi => by rw [F2 _ (by unfold zLH; omega)]; exact hS.1 i hi, fun i hi => by rw [F2 _ (by unfold zLH; omega)]; exact hS.2.1 i hi, fun i hi => by rw [F2 _ (by unfold zLH; omega)]; exact hS.2.2.1 i hi, fun i hi => by rw [F2 _ (by unfold zLH; omega)]; exact hS.2.2.2 i hi⟩
  exact ⟨rfl, eK lk L (zrln e p n 0 g 1), eL lk L (zrln e p n 0 g 1), Nat.le_refl _, eL_le' hz.1, ok_casesFrom hn hp hk hl n 0 g 1 m2 _ _ _ rfl (by omega) (by omega) (by omega) (by omega) hb2 wf he (by omega) hS2 (fun m3 f3 => ⟨rfl, rfl, q m3 (fun x hx => by rw [f3 x (by unfold zLH at hx ⊢; omega)]; exact F2 x hx)⟩)⟩
theorem zgcd_pos (a n : Nat) : 0 < Nat.gcd a (10 ^ n) := Nat.gcd_pos_of_pos_right _ (Nat.pow_pos (by omega))
theorem stuck_fin {A B G t : Nat} {x y z : Int32} (ht : t ≤ 1) (hA : A ≤ 100000000) (hB : B ≤ 100000000) (hG : 0 < G) (hG2 : G ≤ 100000000) (q : Q (some (.long (lN (if t = 0 then A / G else B / G)))) mem) : zE X d 118 76 [.ref 100, .int x, .int y, .int z, .int (nI t), .long (lN A), zU, .long (lN B), zU, .long (lN G), zU] [] mem lk L lk L Q := by
  have hne : ¬ lN G = 0 := fun z => by
    have := (pk_lEQ (a := G) (b := 0) (by omega) (by omega)).mp z
    omega
  refine zE_do 40 76 (tbl := tX7_stuck) zck_118 rfl (h := ?_)
  refine ⟨fun c => ⟨hne, rfl, rfl, ?_⟩, fun c => ⟨hne, rfl, rfl, ?_⟩⟩
  · have c : ¬ nI t = 0 := c
    rw [n0 (by omega)] at c
    rw [if_neg c, ← pk_lDiv (by omega) hG (by omega)] at q
    exact q
  · have c : nI t = 0 := c
    rw [n0 (by omega)] at c
    rw [if_pos c, ← pk_lDiv (by omega) hG (by omega)] at q
    exact q
theorem stuck_mid {A n t : Nat} {x z : Int32} {v7 v8 v9 v10 : Value} (hd : 1 < d) (ht : t ≤ 1) (hn : n ≤ 8) (hA : A ≤ 100000000) (q : Q (some (.long (lN (if t = 0 then A / Nat.gcd A (10 ^ n) else 10 ^ n / Nat.gcd A (10 ^ n))))) mem) : zE X d 118 61 [.ref 100, .int x, .int (nI n), .int z, .int (nI t), .long (lN A), zU, v7, v8, v9, v10] [] mem lk L lk L Q := by
  have h8 := z10_8 hn
  have hgp := zgcd_pos A n
  have hgl : Nat.gcd A (10 ^ n) ≤ 10 ^ n := Nat.le_of_dvd (Nat.pow_pos (by omega)) (Nat.gcd_dvd_right _ _)
  have k1 := stuck_fin (X := X) (d := d) (lk := lk) (L := L) (x := x) (y := nI n) (z := z) ht hA h8 hgp (by omega) q
  refine zgoc [67] 40 61 (tbl := tX7_stuck) zck_118 rfl (h := ?_)
  refine ok_casesInAll rfl (by omega) hn ?_
  generalize 10 ^ n = B at h8 k1 hgp ⊢
  refine zgoc [76] 40 67 (tbl := tX7_stuck) zck_118 rfl (h := ?_)
  exact ok_commonDivisor (by omega) hA h8 hgp k1
theorem ok_stuck {x y z w : Int32} (hd : 25 < d) (hk : zKs lk) (hl : zLine lk L) (hh : zHo lk 10000) (hb : zHB mem 10000 g) (hN : zNow g) (hS : zSt mem) (hlen : L.length ≤ Lf.length)
    (qB : ((x.toInt < 0 ∨ (g 0 : Int) ≤ x.toInt) ∨ (y.toInt < 0 ∨ 8 < y.toInt) ∨ (z.toInt < 0 ∨ 10 < z.toInt) ∨ (w.toInt < 0 ∨ 1 < w.toInt)) → lk = lkf ∧ L = Lf ∧ Q (some (.long (-(lN 1000001)))) mem)
    (q : ∀ e n p t, e < g 0 → x = nI e → n ≤ 8 → y = nI n → p ≤ 10 → z = nI p → t ≤ 1 → w = nI t → (lkf = eK lk L (zrln e p n 0 g 1) ∧ Lf = eL lk L (zrln e p n 0 g 1)) ∧ ∀ mem', zlnf0 mem mem' → Q (some (.long (lN (zstA e p n t g)))) mem') : zOk X d 118 [.ref 100, .int x, .int y, .int z, .int w] mem lk L lkf Lf Q := by
  refine zOk_goc [61] 90 (tbl := tX7_stuck) zck_118 rfl (by omega) hlen (h := ?_)
  refine ⟨rfl, _, hk.at 102 10000, by rw [hh.k3]; rfl, ok_isDish (by omega) hh hb hN.le.1 (fun e he ex => zT_eq ?_) (fun c => zF_eq (qB (Or.inl c)))⟩
  refine ok_isOutside (a := 0) (b := 8) (by omega) (by omega) (by omega) (fun c => zT_ne (qB (Or.inr (Or.inl (by omega))))) (fun n h1 h2 ey => zF_ne ?_)
  refine ok_isOutside (a := 0) (b := 10) (by omega) (by omega) (by omega) (fun c => zT_ne (qB (Or.inr (Or.inr (Or.inl (by omega)))))) (fun p h3 h4 ez => zF_ne ?_)
  refine ok_isOutside (a := 0) (b := 1) (by omega) (by omega) (by omega) (fun c => zT_eq (qB (Or.inr (Or.inr (Or.inr (by omega)))))) (fun t h5 h6 ew => zF_eq ?_)
  obtain ⟨⟨q1, q2⟩, q3⟩ := q e n p t he ex h2 ey h4 ez h6 ew
  subst ex ey ez ew q1 q2
  have wf := hN.wf (by omega)
  have hc := zcs_le e h4 n g
  have h8 := z10_8 h2
  unfold zstA at q3
  refine ⟨rfl, _, hk.at 106 710, rfl, _, hk.at 102 10000, rfl, eK lk L (zrln e p n 0 g 1), eL lk L (zrln e p n 0 g 1), Nat.le_refl _, hlen, ok_casesServed h2 h4 (by omega) hk hl hh hb wf.1 he wf.2 hS (fun m1 f1 => ?_)⟩
  exact stuck_mid (by omega) h6 h2 (by omega) (q3 m1 f1)
end SU
