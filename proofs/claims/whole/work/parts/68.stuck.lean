/-! stuck, of the class -/
/-- how many of 10 ^ k cases have the dish served behind k minutes -/
def zcs (e p : Nat) : Nat → zH → Nat
  | 0, g => if g (13 + e) = 11 then 1 else 0
  | k + 1, g => if g (13 + e) = 11 then 10 ^ (k + 1) else p * zcs e p k (zstuck g) + (10 - p) * zcs e p k (zpass (fun e => e) g)
/-- how many houses stand in the line behind it -/
def zrln (e p : Nat) : Nat → Nat → zH → Nat → Nat
  | 0, _, _, nl => nl
  | k + 1, dep, g, nl => if g (13 + e) = 11 then nl else
    if 10 - p = 0 then (if p = 0 then nl else zrln e p k (dep + 1) (zstuck g) (max nl (dep + 2)))
    else zrln e p k (dep + 1) (zpass (fun e => e) g) (max (if p = 0 then nl else zrln e p k (dep + 1) (zstuck g) (max nl (dep + 2))) (dep + 2))
theorem zrln_le (e p n : Nat) (hn : n ≤ 8) : ∀ k dep g nl, dep + k = n → dep < nl → nl ≤ 9 → nl ≤ zrln e p k dep g nl ∧ zrln e p k dep g nl ≤ 9
  | 0, _, _, nl, _, _, h9 => ⟨Nat.le_refl _, h9⟩
  | k + 1, dep, g, nl, hk, hd, h9 => by
    have a := zrln_le e p n hn k (dep + 1) (zstuck g) (max nl (dep + 2)) (by omega) (by omega) (by omega)
    have a1 : nl ≤ (if p = 0 then nl else zrln e p k (dep + 1) (zstuck g) (max nl (dep + 2))) ∧ (if p = 0 then nl else zrln e p k (dep + 1) (zstuck g) (max nl (dep + 2))) ≤ 9 := by
      split
      · omega
      · omega
    unfold zrln
    split
    · omega
    · split
      · exact a1
      · have b := zrln_le e p n hn k (dep + 1) (zpass (fun e => e) g) (max (if p = 0 then nl else zrln e p k (dep + 1) (zstuck g) (max nl (dep + 2))) (dep + 2)) (by omega) (by omega) (by omega)
        omega
theorem zcs_le (e : Nat) {p : Nat} (hp : p ≤ 10) : ∀ k g, zcs e p k g ≤ 10 ^ k
  | 0, g => by unfold zcs; split <;> omega
  | k + 1, g => by
    have a := zcs_le e hp k (zstuck g)
    have b := zcs_le e hp k (zpass (fun e => e) g)
    unfold zcs
    split
    · exact Nat.le_refl _
    · have h1 : p * zcs e p k (zstuck g) ≤ p * 10 ^ k := Nat.mul_le_mul_left _ a
      have h2 : (10 - p) * zcs e p k (zpass (fun e => e) g) ≤ (10 - p) * 10 ^ k := Nat.mul_le_mul_left _ b
      have h3 : p * 10 ^ k + (10 - p) * 10 ^ k = 10 ^ (k + 1) := by rw [← Nat.add_mul, show p + (10 - p) = 10 by omega, Nat.pow_succ, Nat.mul_comm]
      omega
theorem z10_8 {k : Nat} (h : k ≤ 8) : 10 ^ k ≤ 100000000 := Nat.pow_le_pow_right (show 0 < 10 by omega) h
theorem zstuck_wf {g : zH} (wf : zWF g) (h6 : g 6 ≤ 1000000) : zWF (zstuck g) ∧ zstuck g 0 = g 0 ∧ zstuck g 6 = g 6 + 1 := by
  refine ⟨(zages_wf wf (g 0) (Nat.le_refl _)).s6 (by omega), ?_, zup_eq⟩
  unfold zstuck
  rw [zup_ne (by omega)]; exact zages_0 (by omega) _
def zlnf (dep : Nat) (mem mem' : zMem) : Prop := ∀ x, ¬ (zLH (dep + 1) ≤ x ∧ x < zLH 9) → mem' x = mem x
theorem zlnf.rf {dep : Nat} {mem : zMem} : zlnf dep mem mem := fun _ _ => rfl
theorem zlnf.tr {dep : Nat} {m1 m2 m3 : zMem} (h : zlnf dep m1 m2) (h' : zlnf dep m2 m3) : zlnf dep m1 m3 := fun x hx => (h' x hx).trans (h x hx)
theorem zlnf.up {dep : Nat} {m1 m2 : zMem} (h : zlnf (dep + 1) m1 m2) : zlnf dep m1 m2 := fun x hx => h x (by unfold zLH at hx ⊢; omega)
theorem zfb.ln {dep : Nat} {m1 m2 : zMem} (h : zfb m1 m2 (zLH (dep + 1))) (hd : dep < 8) : zlnf dep m1 m2 := fun x hx => h x (by unfold zLH at hx ⊢; omega)
theorem zSt.ln {dep : Nat} {m1 m2 : zMem} (hS : zSt m1) (h : zlnf dep m1 m2) : zSt m2 :=
  ⟨fun i hi => by rw [h _ (by unfold zLH; omega)]; exact hS.1 i hi, fun i hi => by rw [h _ (by unfold zLH; omega)]; exact hS.2.1 i hi, fun i hi => by rw [h _ (by unfold zLH; omega)]; exact hS.2.2.1 i hi, fun i hi => by rw [h _ (by unfold zLH; omega)]; exact hS.2.2.2 i hi⟩
section ST
variable {X d : Nat} {mem : zMem} {lk : zLk} {L : List Nat} {Q : Option Value → zMem → Prop}
theorem cases_loop {n : Nat} (hn : n ≤ 8) (q : Q (some (.long (lN (10 ^ n)))) mem) : ∀ m k, k + m = n → zE X d 33 4 [.int (nI n), .long (lN (10 ^ k)), zU, .int (nI k)] [] mem lk L lk L Q := by
  intro m
  induction m with
  | zero =>
    intro k hk
    have c1 : nI n ≤ nI k := by rw [nLe (by omega) (by omega)]; omega
    rw [show k = n by omega] at c1 ⊢
    refine zE_do 40 4 (tbl := tX2_casesInAll) zck_33 rfl (h := ?_)
    exact ⟨fun _ => ⟨rfl, rfl, q⟩, fun c => absurd c1 c⟩
  | succ m ih =>
    intro k hk
    have c1 : ¬ nI n ≤ nI k := by rw [nLe (by omega) (by omega)]; omega
    have kk := ih (k + 1) (by omega)
    rw [show nI (k + 1) = nI k + nI 1 from (nI_add k 1).symm, Nat.pow_succ, ← lN_mul] at kk
    refine zE_do 40 4 (tbl := tX2_casesInAll) zck_33 rfl (h := ?_)
    exact ⟨fun c => absurd c c1, fun _ => kk⟩
theorem ok_casesInAll {n : Nat} {x : Int32} (ex : x = nI n) (hd : 0 < d) (hn : n ≤ 8) (q : Q (some (.long (lN (10 ^ n)))) mem) : zOk X d 33 [.int x] mem lk L lk L Q := by
  subst ex
  refine zOk_do 20 (tbl := tX2_casesInAll) zck_33 rfl hd (h := ?_)
  exact cases_loop hn q n 0 (by omega)
theorem zl0 {x : Nat} (h : x < 2 ^ 63) : lg_cmp (lN x) (lN 0) = 0 ↔ x = 0 := by
  rw [cmp_eq, pk_lT h, pk_lT (by omega)]; omega
theorem zhalf {x y : Nat} (h0 : 0 < y) (h1 : y < x) : x % y ≤ x / 2 := by
  by_cases z : y ≤ x / 2
  · exact Nat.le_of_lt (Nat.lt_of_lt_of_le (Nat.mod_lt _ h0) z)
  · rw [Nat.mod_eq_sub_mod (by omega), Nat.mod_eq_of_lt (by omega)]; omega
/-- Math.max of two longs, the first of them 1 -/
theorem zlmax {b : Nat} (h0 : 0 < b) (hb : b < 2 ^ 63) : (if lN b < lN 1 then lN 1 else lN b) = lN b := by
  rw [if_neg]
  rw [Int64.lt_iff_toInt_lt, pk_lT hb, pk_lT (by omega)]
  omega
theorem gcd_loop {a b : Int64} : ∀ m k x y v9 v10, k + 2 * m ≤ 98 → x < 2 ^ m → x < 2 ^ 63 → y < 2 ^ 63 → 0 < Nat.gcd x y → Nat.gcd x y < 2 ^ 63 → Q (some (.long (lN (Nat.gcd x y)))) mem → zE X d 34 9 [.long a, zU, .long b, zU, .long (lN x), zU, .long (lN y), zU, .int (nI k), v9, v10] [] mem lk L lk L Q := by
  intro m
  induction m with
  | zero =>
    intro k x y v9 v10 hk hx hx63 hy g1 g2 q
    have c1 : ¬ nI 100 ≤ nI k := by rw [nLe (by omega) (by omega)]; omega
    have hx0 : x = 0 := by omega
    subst hx0
    rw [Nat.gcd_zero_left] at q g1 g2
    refine zE_do 40 9 (tbl := tX2_commonDivisor) zck_34 rfl (h := ?_)
    exact ⟨fun c => absurd c c1, fun _ => ⟨fun _ => ⟨rfl, rfl, by rw [zlmax g1 g2]; exact q⟩, fun c => absurd ((zl0 (x := 0) (by omega)).mpr rfl) c⟩⟩
  | succ m ih =>
    intro k x y v9 v10 hk hx hx63 hy g1 g2 q
    have c1 : ¬ nI 100 ≤ nI k := by rw [nLe (by omega) (by omega)]; omega
    refine zE_do 40 9 (tbl := tX2_commonDivisor) zck_34 rfl (h := ?_)
    refine ⟨fun c => absurd c c1, fun _ => ⟨fun c => ?_, fun c => ?_⟩⟩
    · have c := (zl0 hx63).mp c
      subst c
      rw [Nat.gcd_zero_left] at q g1 g2
      exact ⟨rfl, rfl, by rw [zlmax g1 g2]; exact q⟩
    · have c : ¬ x = 0 := fun z => c ((zl0 hx63).mpr z)
      have hne : ¬ lN x = 0 := fun z => c ((pk_lEQ (a := x) (b := 0) hx63 (by omega)).mp z)
      have hr : y % x < x := Nat.mod_lt _ (by omega)
      refine ⟨hne, ?_⟩
      rw [Nat.gcd_rec] at q g1 g2
      have second : ∀ v9 v10, zE X d 34 9 [.long a, zU, .long b, zU, .long (lN (y % x)), zU, .long (lN x), zU, .int (nI (k + 1)), v9, v10] [] mem lk L lk L Q := fun v9 v10 => by
        have c1 : ¬ nI 100 ≤ nI (k + 1) := by rw [nLe (by omega) (by omega)]; omega
        refine zE_do 40 9 (tbl := tX2_commonDivisor) zck_34 rfl (h := ?_)
        refine ⟨fun c => absurd c c1, fun _ => ⟨fun c => ?_, fun c => ?_⟩⟩
        · have c := (zl0 (x := y % x) (by omega)).mp c
          rw [c, Nat.gcd_zero_left] at q g1 g2
          exact ⟨rfl, rfl, by rw [zlmax g1 g2]; exact q⟩
        · have c : ¬ y % x = 0 := fun z => c ((zl0 (x := y % x) (by omega)).mpr z)
          have hne : ¬ lN (y % x) = 0 := fun z => c ((pk_lEQ (a := y % x) (b := 0) (by omega) (by omega)).mp z)
          have hh := zhalf (x := x) (y := y % x) (by omega) hr
          refine ⟨hne, ?_⟩
          rw [Nat.gcd_rec] at q g1 g2
          have k2 := fun v9 v10 => ih (k + 1 + 1) (x % (y % x)) (y % x) v9 v10 (by omega) (by rw [Nat.pow_succ] at hx; omega) (by omega) (by omega) g1 g2 q
          rw [show nI (k + 1 + 1) = nI (k + 1) + nI 1 from (nI_add (k + 1) 1).symm, ← pk_lRem hx63 (show 0 < y % x by omega) (by omega)] at k2
          exact k2 _ _
      rw [show nI (k + 1) = nI k + nI 1 from (nI_add k 1).symm, ← pk_lRem hy (show 0 < x by omega) hx63] at second
      exact second _ _
theorem ok_commonDivisor {a b : Nat} (hd : 0 < d) (ha : a ≤ 100000000) (hb : b ≤ 100000000) (hg : 0 < Nat.gcd a b) (q : Q (some (.long (lN (Nat.gcd a b)))) mem) : zOk X d 34 [.long (lN a), .long (lN b)] mem lk L lk L Q := by
  refine zOk_do 20 (tbl := tX2_commonDivisor) zck_34 rfl (by omega) (h := ?_)
  have hl : Nat.gcd a b < 2 ^ 63 := by
    by_cases z : b = 0
    · subst z; rw [Nat.gcd_zero_right]; omega
    · have h2 : Nat.gcd a b ≤ b := Nat.le_of_dvd (by omega) (Nat.gcd_dvd_right a b)
      omega
  exact gcd_loop 27 0 a b _ _ (by omega) (by omega) (by omega) (by omega) hg hl q
theorem ok_branch {e n p k dep s nl : Nat} {g gs : zH} (hs : (s = 1 ∧ gs = zstuck g) ∨ (s = 0 ∧ gs = zpass (fun e => e) g)) (hp : p ≤ 10) (hk : zKs lk) (hl : zLine lk L) (hd : 2 * k + 7 < d) (hn : n ≤ 8) (hdk : dep + (k + 1) = n) (hnl : dep < nl) (h9 : nl ≤ 9) (hb : zHB mem (zLH dep) g) (wf : zWF g) (h6 : g 6 + (k + 1) ≤ 999999) (hS : zSt mem)
    (H : ∀ nl mem (d : Nat) (Q : Option Value → zMem → Prop) (x : Int32), x = nI (dep + 1) → dep + 1 < nl → nl ≤ 9 → 2 * k + 6 < d → zHB mem (zLH (dep + 1)) gs → zSt mem → (∀ mem', zlnf (dep + 1) mem mem' → Q (some (.long (lN (zcs e p k gs)))) mem') → zOk X d 36 [.ref 710, .int x, .int (nI e), .int (nI n), .int (nI p)] mem (eK lk L nl) (eL lk L nl) (eK lk L (zrln e p k (dep + 1) gs nl)) (eL lk L (zrln e p k (dep + 1) gs nl)) Q)
    (q : ∀ mem', zlnf dep mem mem' → Q (some (.long (lN ((if s = 1 then p else 10 - p) * zcs e p k gs)))) mem') : zOk X d 37 [.ref 710, .int (nI dep), .int (nI e), .int (nI n), .int (nI p), .int (nI s)] mem (eK lk L nl) (eL lk L nl) (eK lk L (if (if s = 1 then p else 10 - p) = 0 then nl else zrln e p k (dep + 1) gs (max nl (dep + 2)))) (eL lk L (if (if s = 1 then p else 10 - p) = 0 then nl else zrln e p k (dep + 1) gs (max nl (dep + 2)))) Q := by
  have hz := zrln_le e p n hn k (dep + 1) gs (max nl (dep + 2)) (by omega) (by omega) (by omega)
  have hlen : (eL lk L nl).length ≤ (eL lk L (if (if s = 1 then p else 10 - p) = 0 then nl else zrln e p k (dep + 1) gs (max nl (dep + 2)))).length := eL_le' ((show ∀ c : Nat, nl ≤ (if c = 0 then nl else zrln e p k (dep + 1) gs (max nl (dep + 2))) from fun c => by split <;> omega) _)
  have hmx : max (max nl (dep + 2)) (dep + 1) = max nl (dep + 2) := by omega
  have hk' : zKs (eK lk L (max nl (dep + 2))) := eK_ks hk (by omega)
  have hoT : zHo (eK lk L (max nl (dep + 2))) (zLH (dep + 1)) := (eK_lt hl (max nl (dep + 2)) (by omega) (by omega)).2
  have hoH : zHo (eK lk L (max nl (dep + 2))) (zLH dep) := (eK_lt hl (max nl (dep + 2)) (by omega) (by omega)).2
  have hcl := zcs_le e hp k gs
  have h8 := z10_8 (show k ≤ 8 by omega)
  -- from the first lineAt on
  have body : ∀ c : Nat, c ≤ 10 → c = (if s = 1 then p else 10 - p) → c ≠ 0 → ∀ y : Int32, y = nI c → zE X d 37 24 [.ref 710, .int (nI dep), .int (nI e), .int (nI n), .int (nI p), .int (nI s), .int y, zU] [] mem (eK lk L nl) (eL lk L nl) (eK lk L (zrln e p k (dep + 1) gs (max nl (dep + 2)))) (eL lk L (zrln e p k (dep + 1) gs (max nl (dep + 2)))) Q := fun c hc10 hc hc0 y hy => by
    subst hy
    have l2 : ∀ m2 (d' : Nat) (Q' : Option Value → zMem → Prop), 1 < d' → Q' (some (.ref (zLH dep))) m2 → zOk X d' 38 [.ref 710, .int (nI dep)] m2 (eK lk L (max nl (dep + 2))) (eL lk L (max nl (dep + 2))) (eK lk L (max nl (dep + 2))) (eL lk L (max nl (dep + 2))) Q' := fun m2 d' Q' hd' q' => by
      have k1 := ok_lineAt (X := X) (mem := m2) (Q := Q') (k := dep) (n := max nl (dep + 2)) rfl hd' (by omega) (by omega) (by omega) hk hl (fun m3 h1 _ => by rw [h1 (by omega)]; exact q')
      rw [hmx] at k1
      exact k1
    refine zgoc [] 60 24 (tbl := tX2_branch) zck_37 rfl (h := ?_)
    refine ⟨rfl, eK lk L (max nl (dep + 2)), eL lk L (max nl (dep + 2)), eL_le' (by omega), eL_le' (by omega), ok_lineAt (k := dep + 1) (nI_add dep 1) (by omega) (by omega) (by omega) h9 hk hl (fun m1 h1 f1 => ?_)⟩
    have hb1 : zHB m1 (zLH dep) g := hb.same wf.1 (fun j hj => f1 _ (by unfold zLH; omega))
    refine ⟨rfl, eK lk L (max nl (dep + 2)), eL lk L (max nl (dep + 2)), eL_le' (by omega), Nat.le_refl _, l2 m1 _ _ (by omega) ?_⟩
    refine ⟨by rw [hoT.k3]; rfl, ok_become (by omega) hoT hoH (by unfold zLH; omega) hb1 wf.1 (fun m2 hb2 f2 => ?_)⟩
    have hS2 : zSt m2 := hS.ln ((f1.ln (by omega)).tr (f2.fb.ln (by omega)))
    have F2 : zlnf dep mem m2 := (f1.ln (by omega)).tr (f2.fb.ln (by omega))
    have fin : ∀ m3 (d' : Nat) (Q' : Option Value → zMem → Prop), 2 * k + 6 < d' → zHB m3 (zLH (dep + 1)) gs → zfr m2 m3 (zLH (dep + 1)) → (∀ m4, Q (some (.long ((nI c).toInt64 * lN (zcs e p k gs)))) m4 → Q' (some (.long (lN (zcs e p k gs)))) m4) → zOk X d' 36 [.ref 710, .int (nI dep + nI 1), .int (nI e), .int (nI n), .int (nI p)] m3 (eK lk L (max nl (dep + 2))) (eL lk L (max nl (dep + 2))) (eK lk L (zrln e p k (dep + 1) gs (max nl (dep + 2)))) (eL lk L (zrln e p k (dep + 1) gs (max nl (dep + 2)))) Q' := fun m3 d' Q' hd' hb3 f3 q' => by
      refine H (max nl (dep + 2)) m3 d' Q' (nI dep + nI 1) (nI_add dep 1) (by omega) (by omega) hd' hb3 (hS2.ln (f3.fb.ln (dep := dep) (by omega))) (fun m4 f4 => q' m4 ?_)
      rw [nI_l (by omega), lN_mul, hc]
      exact q m4 ((F2.tr (f3.fb.ln (by omega))).tr f4.up)
    rcases hs with ⟨s1, s2⟩ | ⟨s1, s2⟩
    · subst s1 s2
      exact ⟨by rw [hoT.k3]; rfl, ok_passStuck (by omega) hoT hb2 wf (by omega) (fun m3 hb3 f3 => ⟨rfl, _, _, Nat.le_refl _, eL_le' hz.1, fin m3 _ _ (by omega) hb3 f3 (fun m4 q4 => ⟨rfl, rfl, q4⟩)⟩)⟩
    · subst s1 s2
      exact ⟨by rw [hoT.k3]; rfl, ok_pass (by omega) hoT hb2 wf (by omega) (hS2.ord (by unfold zLH; omega)) (fun m3 hb3 f3 => ⟨rfl, _, _, Nat.le_refl _, eL_le' hz.1, fin m3 _ _ (by omega) hb3 f3 (fun m4 q4 => ⟨rfl, rfl, q4⟩)⟩)⟩
  have go : ∀ c : Nat, c ≤ 10 → c = (if s = 1 then p else 10 - p) → ∀ y : Int32, y = nI c → zE X d 37 17 [.ref 710, .int (nI dep), .int (nI e), .int (nI n), .int (nI p), .int (nI s), .int y, zU] [] mem (eK lk L nl) (eL lk L nl) (eK lk L (if (if s = 1 then p else 10 - p) = 0 then nl else zrln e p k (dep + 1) gs (max nl (dep + 2)))) (eL lk L (if (if s = 1 then p else 10 - p) = 0 then nl else zrln e p k (dep + 1) gs (max nl (dep + 2)))) Q := fun c hc10 hc y hy => by
    by_cases hc0 : c = 0
    · have e0 : (if (if s = 1 then p else 10 - p) = 0 then nl else zrln e p k (dep + 1) gs (max nl (dep + 2))) = nl := if_pos (by omega)
      have p0 := q mem zlnf.rf
      rw [← hc, hc0, Nat.zero_mul] at p0
      rw [e0, hy, hc0]
      refine zgoc [24] 60 17 (tbl := tX2_branch) zck_37 rfl (h := ?_)
      exact ⟨fun z => absurd (show nI 0 = 0 from rfl) z, fun _ => ⟨rfl, rfl, p0⟩⟩
    · have e0 : (if (if s = 1 then p else 10 - p) = 0 then nl else zrln e p k (dep + 1) gs (max nl (dep + 2))) = zrln e p k (dep + 1) gs (max nl (dep + 2)) := if_neg (by omega)
      have kb := body c hc10 hc hc0 y hy
      rw [e0]
      subst hy
      refine zgoc [24] 60 17 (tbl := tX2_branch) zck_37 rfl (h := ?_)
      refine ⟨fun _ => kb, fun z => ?_⟩
      have z : nI c = 0 := z
      rw [n0 (by omega)] at z
      exact absurd z hc0
  refine zOk_goc [17] 60 (tbl := tX2_branch) zck_37 rfl (by omega) hlen (h := ?_)
  rcases hs with ⟨s1, s2⟩ | ⟨s1, s2⟩
  · refine ⟨fun z => ?_, fun z => go p hp (by rw [if_pos s1]) (nI p) rfl⟩
    have z : nI s = 0 := z
    rw [n0 (by omega)] at z
    omega
  · refine ⟨fun z => go (10 - p) (by omega) (by rw [if_neg (by omega)]) (nI 10 - nI p) (nsub hp (by omega)), fun z => ?_⟩
    have z : ¬ nI s = 0 := z
    rw [n0 (by omega)] at z
    omega
theorem ok_casesFrom {e n p : Nat} (hn : n ≤ 8) (hp : p ≤ 10) (hk : zKs lk) (hl : zLine lk L) : ∀ k dep g nl mem (d : Nat) (Q : Option Value → zMem → Prop) (x : Int32), x = nI dep → dep + k = n → dep < nl → nl ≤ 9 → 2 * k + 6 < d → zHB mem (zLH dep) g → zWF g → e < g 0 → g 6 + k ≤ 999999 → zSt mem → (∀ mem', zlnf dep mem mem' → Q (some (.long (lN (zcs e p k g)))) mem') →
    zOk X d 36 [.ref 710, .int x, .int (nI e), .int (nI n), .int (nI p)] mem (eK lk L nl) (eL lk L nl) (eK lk L (zrln e p k dep g nl)) (eL lk L (zrln e p k dep g nl)) Q := by
  intro k
  induction k with
  | zero =>
    intro dep g nl mem d Q x ex hdk hnl h9 hd hb wf he h6 hS q
    subst ex
    have w0 := wf.1
    have hoH : zHo (eK lk L nl) (zLH dep) := (eK_lt hl nl h9 hnl).2
    have h11 := wf.at11 e he
    have ea : mem (zLH dep + (7 + 6 * 1) + (nI e).toNatClampNeg) = nI (g (13 + e)) := by rw [nC (by omega)]; exact hb.at he
    have c2 : nI n ≤ nI dep := by rw [nLe (by omega) (by omega)]; omega
    have l0 : ∀ (d' : Nat) (Q' : Option Value → zMem → Prop), 1 < d' → Q' (some (.ref (zLH dep))) mem → zOk X d' 38 [.ref 710, .int (nI dep)] mem (eK lk L nl) (eL lk L nl) (eK lk L nl) (eL lk L nl) Q' := fun d' Q' hd' q' => by
      have k1 := ok_lineAt (X := X) (mem := mem) (Q := Q') (k := dep) (n := nl) rfl hd' (by omega) (by omega) h9 hk hl (fun m3 h1 _ => by rw [h1 hnl]; exact q')
      rw [show max nl (dep + 1) = nl by omega] at k1
      exact k1
    unfold zcs at q
    refine zOk_goc [] 60 (tbl := tX2_casesFrom) zck_36 rfl (by omega) (Nat.le_refl _) (h := ?_)
    refine ⟨rfl, eK lk L nl, eL lk L nl, Nat.le_refl _, Nat.le_refl _, l0 _ _ (by omega) ⟨hoH.k3, _, hoH.lk 1 (by omega), Or.inl (hoH.ka 1 (by omega)), hoH.inn (by omega), fun c => ⟨fun _ => ⟨rfl, rfl, ?_⟩, fun c3 => absurd c2 c3⟩, fun c => ok_casesInAll (n := 0) ?_ (by omega) (by omega) ⟨rfl, rfl, ?_⟩⟩⟩
    · have c : ¬ mem (zLH dep + (7 + 6 * 1) + (nI e).toNatClampNeg) = nI 11 := c
      rw [ea, nEq (by omega) (by omega)] at c
      rw [if_neg c] at q
      exact q mem zlnf.rf
    · show nI n - nI dep = nI 0
      rw [nsub (by omega) (by omega), show n - dep = 0 by omega]
    · have c : mem (zLH dep + (7 + 6 * 1) + (nI e).toNatClampNeg) = nI 11 := c
      rw [ea, nEq (by omega) (by omega)] at c
      rw [if_pos c] at q
      exact q mem zlnf.rf
  | succ k ih =>
    intro dep g nl mem d Q x ex hdk hnl h9 hd hb wf he h6 hS q
    subst ex
    have w0 := wf.1
    have hoH : zHo (eK lk L nl) (zLH dep) := (eK_lt hl nl h9 hnl).2
    have h11 := wf.at11 e he
    have ea : mem (zLH dep + (7 + 6 * 1) + (nI e).toNatClampNeg) = nI (g (13 + e)) := by rw [nC (by omega)]; exact hb.at he
    have c2 : ¬ nI n ≤ nI dep := by rw [nLe (by omega) (by omega)]; omega
    have c3 : nI dep < nI 8 := by rw [nLt (by omega) (by omega)]; omega
    have l0 : ∀ (d' : Nat) (Q' : Option Value → zMem → Prop), 1 < d' → Q' (some (.ref (zLH dep))) mem → zOk X d' 38 [.ref 710, .int (nI dep)] mem (eK lk L nl) (eL lk L nl) (eK lk L nl) (eL lk L nl) Q' := fun d' Q' hd' q' => by
      have k1 := ok_lineAt (X := X) (mem := mem) (Q := Q') (k := dep) (n := nl) rfl hd' (by omega) (by omega) h9 hk hl (fun m3 h1 _ => by rw [h1 hnl]; exact q')
      rw [show max nl (dep + 1) = nl by omega] at k1
      exact k1
    have hz := zrln_le e p n hn (k + 1) dep g nl hdk hnl h9
    obtain ⟨s1, s2, s3⟩ := zstuck_wf wf (by omega)
    have p1 := zpass_wf (ord := fun e => e) wf (by omega)
    have p2 : zpass (fun e => e) g 0 = g 0 := zpass_ne wf.1 (by omega) (by omega) (by omega) (by omega)
    have p3 : zpass (fun e => e) g 6 = g 6 + 1 := zpass_6 wf.1
    unfold zcs at q
    refine zOk_goc [] 60 (tbl := tX2_casesFrom) zck_36 rfl (by omega) (eL_le' hz.1) (h := ?_)
    refine ⟨rfl, eK lk L nl, eL lk L nl, eL_le' hz.1, Nat.le_refl _, l0 _ _ (by omega) ⟨hoH.k3, _, hoH.lk 1 (by omega), Or.inl (hoH.ka 1 (by omega)), hoH.inn (by omega), fun c => ⟨fun c4 => absurd c4 c2, fun _ => ⟨fun _ => ⟨rfl, ?_⟩, fun c4 => absurd c3 c4⟩⟩, fun c => ok_casesInAll (n := k + 1) ?_ (by omega) (by omega) ?_⟩⟩
    · have c : ¬ mem (zLH dep + (7 + 6 * 1) + (nI e).toNatClampNeg) = nI 11 := c
      rw [ea, nEq (by omega) (by omega)] at c
      rw [if_neg c] at q
      have hzr : zrln e p (k + 1) dep g nl = (if 10 - p = 0 then (if p = 0 then nl else zrln e p k (dep + 1) (zstuck g) (max nl (dep + 2))) else zrln e p k (dep + 1) (zpass (fun e => e) g) (max (if p = 0 then nl else zrln e p k (dep + 1) (zstuck g) (max nl (dep + 2))) (dep + 2))) := by
        show (if g (13 + e) = 11 then _ else _) = _
        rw [if_neg c]
      rw [hzr] at hz ⊢
      have hy := zrln_le e p n hn k (dep + 1) (zstuck g) (max nl (dep + 2)) (by omega) (by omega) (by omega)
      have hy1 : nl ≤ (if p = 0 then nl else zrln e p k (dep + 1) (zstuck g) (max nl (dep + 2))) ∧ (if p = 0 then nl else zrln e p k (dep + 1) (zstuck g) (max nl (dep + 2))) ≤ 9 := by
        split
        · omega
        · omega
      have hnx : (if p = 0 then nl else zrln e p k (dep + 1) (zstuck g) (max nl (dep + 2))) ≤ (if 10 - p = 0 then (if p = 0 then nl else zrln e p k (dep + 1) (zstuck g) (max nl (dep + 2))) else zrln e p k (dep + 1) (zpass (fun e => e) g) (max (if p = 0 then nl else zrln e p k (dep + 1) (zstuck g) (max nl (dep + 2))) (dep + 2))) := by
        generalize (if p = 0 then nl else zrln e p k (dep + 1) (zstuck g) (max nl (dep + 2))) = N1 at hy1 ⊢
        have := zrln_le e p n hn k (dep + 1) (zpass (fun e => e) g) (max N1 (dep + 2)) (by omega) (by omega) (by omega)
        split <;> omega
      have b1 := fun (d' : Nat) (Q' : Option Value → zMem → Prop) (hd' : 2 * k + 7 < d') q' => ok_branch (X := X) (mem := mem) (Q := Q') (s := 1) (gs := zstuck g) (d := d') (Or.inl ⟨rfl, rfl⟩) hp hk hl hd' hn hdk hnl h9 hb wf h6 hS (fun nl mem d Q x a1 a2 a3 a4 a5 a6 a7 => ih (dep + 1) (zstuck g) nl mem d Q x a1 (by omega) a2 a3 a4 a5 s1 (by omega) (by omega) a6 a7) q'
      rw [if_pos rfl] at b1
      generalize hN1 : (if p = 0 then nl else zrln e p k (dep + 1) (zstuck g) (max nl (dep + 2))) = N1 at hy1 hnx b1 ⊢
      refine ⟨eK lk L N1, eL lk L N1, eL_le' hnx, eL_le' hy1.1, b1 _ _ (by omega) (fun m1 f1 => ?_)⟩
      have b2 := fun (d' : Nat) (Q' : Option Value → zMem → Prop) (hd' : 2 * k + 7 < d') q' => ok_branch (X := X) (mem := m1) (Q := Q') (s := 0) (nl := N1) (gs := zpass (fun e => e) g) (d := d') (Or.inr ⟨rfl, rfl⟩) hp hk hl hd' hn hdk (by omega) hy1.2 (hb.same w0 (fun j hj => f1 _ (by unfold zLH; omega))) wf h6 (hS.ln f1) (fun nl mem d Q x a1 a2 a3 a4 a5 a6 a7 => ih (dep + 1) (zpass (fun e => e) g) nl mem d Q x a1 (by omega) a2 a3 a4 a5 p1 (by omega) (by omega) a6 a7) q'
      rw [if_neg (show ¬ (0 : Nat) = 1 by omega)] at b2
      refine ⟨rfl, _, _, Nat.le_refl _, eL_le' hnx, b2 _ _ (by omega) (fun m2 f2 => ⟨rfl, rfl, ?_⟩)⟩
      rw [lN_add]
      exact q m2 (f1.tr f2)
    · show nI n - nI dep = nI (k + 1)
      rw [nsub (by omega) (by omega), show n - dep = k + 1 by omega]
    · have c : mem (zLH dep + (7 + 6 * 1) + (nI e).toNatClampNeg) = nI 11 := c
      rw [ea, nEq (by omega) (by omega)] at c
      rw [if_pos c] at q
      have hzr : zrln e p (k + 1) dep g nl = nl := by
        show (if g (13 + e) = 11 then _ else _) = _
        rw [if_pos c]
      rw [hzr]
      exact ⟨rfl, rfl, q mem zlnf.rf⟩
end ST
