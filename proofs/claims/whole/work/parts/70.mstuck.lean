/-! stuck, of the reference -/
theorem zpass_srv {ord : Nat → Nat} {g : zH} (wf : zWF g) {e : Nat} (he : e < g 0) (h : g (13 + e) = 11) : zpass ord g (13 + e) = 11 := by
  have w0 := wf.1
  have w9 := wf.2.2.1
  have w4 := wf.2.2.2.2.2.1
  have a : ∀ i, i ≤ 6 → zlets g i (13 + e) = 11 := by
    intro i
    induction i with
    | zero => intro _; exact h
    | succ i ih =>
      intro hi
      have ih := ih (by omega)
      show zlet1 (zlets g i) i (13 + e) = 11
      by_cases z : i = e
      · subst z
        unfold zlet1
        split
        · exact zup_eq
        · exact ih
      · rw [zlet1_ne (by omega)]; exact ih
  have hl0 : zlets g (g 0) 0 = g 0 := zlets_ne (by omega) _ w0
  have hl4 : zlets g (g 0) 4 = g 4 := zlets_ne (by omega) _ w0
  have b : ∀ i, ztakes ord (zlets g (g 0)) i (13 + e) = 11 := by
    intro i
    induction i with
    | zero => exact a (g 0) w0
    | succ i ih =>
      show ztake1 (ztakes ord (zlets g (g 0)) i) (ord i) (13 + e) = 11
      by_cases z : ord i = e
      · unfold ztake1
        rw [if_neg]
        · exact ih
        · intro y
          have y2 := y.2.1
          rw [z, ih, ztakes_ne (by omega) (by omega), hl4] at y2
          omega
      · rw [ztake1_ne (by omega)]; exact ih
  have c : zmove (ztakes ord (zlets g (g 0)) (g 0)) (13 + e) = 11 := by
    unfold zmove
    split
    · exact b _
    · rw [zup_ne (by omega), zup_ne (by omega)]; exact b _
  show va_up (zages _ (zmove (ztakes ord (zlets g (g 0)) (g 0))) (g 0)) 6 _ (13 + e) = 11
  rw [zup_ne (by omega), zages_0 (by omega)]
  exact c
theorem zstuck_srv {g : zH} {e : Nat} (he : e < 6) : zstuck g (13 + e) = g (13 + e) := by
  unfold zstuck
  rw [zup_ne (by omega), zages_0 (by omega)]
/-- the cases of one set: which minutes stick -/
def ztm (e p : Nat) : Nat → zH → Nat → Nat
  | 0, g, _ => if g (13 + e) = 11 then 1 else 0
  | k + 1, g, s => (if s % 2 = 1 then p else 10 - p) * ztm e p k (if s % 2 = 1 then zstuck g else zpass (fun e => e) g) (s / 2)
def zus (e p k : Nat) (g : zH) : Nat → Nat
  | 0 => 0
  | s + 1 => zus e p k g s + ztm e p k g s
theorem zus_2 (e p k : Nat) (g : zH) : ∀ m, zus e p (k + 1) g (2 * m) = p * zus e p k (zstuck g) m + (10 - p) * zus e p k (zpass (fun e => e) g) m
  | 0 => by show 0 = p * 0 + (10 - p) * 0; omega
  | m + 1 => by
    have ih := zus_2 e p k g m
    have h0 : ztm e p (k + 1) g (2 * m) = (10 - p) * ztm e p k (zpass (fun e => e) g) m := by
      show (if (2 * m) % 2 = 1 then p else 10 - p) * ztm e p k (if (2 * m) % 2 = 1 then zstuck g else zpass (fun e => e) g) ((2 * m) / 2) = _
      rw [if_neg (by omega), if_neg (by omega), show 2 * m / 2 = m by omega]
    have h1 : ztm e p (k + 1) g (2 * m + 1) = p * ztm e p k (zstuck g) m := by
      show (if (2 * m + 1) % 2 = 1 then p else 10 - p) * ztm e p k (if (2 * m + 1) % 2 = 1 then zstuck g else zpass (fun e => e) g) ((2 * m + 1) / 2) = _
      rw [if_pos (by omega), if_pos (by omega), show (2 * m + 1) / 2 = m by omega]
    show zus e p (k + 1) g (2 * m) + ztm e p (k + 1) g (2 * m) + ztm e p (k + 1) g (2 * m + 1) = p * (zus e p k (zstuck g) m + ztm e p k (zstuck g) m) + (10 - p) * (zus e p k (zpass (fun e => e) g) m + ztm e p k (zpass (fun e => e) g) m)
    rw [ih, h0, h1, Nat.mul_add, Nat.mul_add]
    omega
theorem zcs_srv (e p : Nat) : ∀ k g, g (13 + e) = 11 → zcs e p k g = 10 ^ k
  | 0, g, h => by unfold zcs; rw [if_pos h]
  | k + 1, g, h => by unfold zcs; rw [if_pos h]
theorem zus_cs (e : Nat) {p : Nat} (hp : p ≤ 10) : ∀ k g, zWF g → e < g 0 → g 6 + k ≤ 999999 → zus e p k g (2 ^ k) = zcs e p k g
  | 0, g, _, _, _ => by
    show 0 + ztm e p 0 g 0 = zcs e p 0 g
    rw [Nat.zero_add]; rfl
  | k + 1, g, wf, he, h6 => by
    have w0 := wf.1
    obtain ⟨s1, s2, s3⟩ := zstuck_wf wf (by omega)
    have p1 := zpass_wf (ord := fun e => e) wf (by omega)
    have p2 : zpass (fun e => e) g 0 = g 0 := zpass_ne wf.1 (by omega) (by omega) (by omega) (by omega)
    have p3 : zpass (fun e => e) g 6 = g 6 + 1 := zpass_6 wf.1
    rw [show 2 ^ (k + 1) = 2 * 2 ^ k by rw [Nat.pow_succ, Nat.mul_comm], zus_2, zus_cs e hp k (zstuck g) s1 (by omega) (by omega), zus_cs e hp k (zpass (fun e => e) g) p1 (by omega) (by omega)]
    by_cases z : g (13 + e) = 11
    · rw [zcs_srv e p (k + 1) g z, zcs_srv e p k _ (zpass_srv wf he z), zcs_srv e p k _ (by rw [zstuck_srv (by omega)]; exact z), ← Nat.add_mul, show p + (10 - p) = 10 by omega, Nat.pow_succ, Nat.mul_comm]
    · show _ = (if g (13 + e) = 11 then _ else _)
      rw [if_neg z]
theorem ztm_le (e : Nat) {p : Nat} (hp : p ≤ 10) : ∀ k g s, ztm e p k g s ≤ 10 ^ k
  | 0, g, s => by unfold ztm; split <;> omega
  | k + 1, g, s => by
    have a := ztm_le e hp k (if s % 2 = 1 then zstuck g else zpass (fun e => e) g) (s / 2)
    unfold ztm
    rw [Nat.pow_succ, Nat.mul_comm (10 ^ k) 10]
    exact Nat.mul_le_mul (by split <;> omega) a
theorem zsh8_t : ∀ i, i < 8 → ∀ b, b < 256 → (nI b >>> (nI i &&& 31)) &&& nI 1 = nI (b / 2 ^ i % 2) := by decide +kernel
theorem zsl8_t : ∀ n, n ≤ 8 → nI 1 <<< (nI n &&& 31) = nI (2 ^ n) := by decide +kernel
section MS
variable {X d : Nat} {mem : zMem} {lk : zLk} {L : List Nat} {Q : Option Value → zMem → Prop} {g : zH}
theorem ok_has8 {b i : Nat} (hd : 0 < d) (hb : b < 256) (hi : i < 8) (q1 : b / 2 ^ i % 2 = 1 → Q (some (.int (nI 1))) mem) (q0 : b / 2 ^ i % 2 = 0 → Q (some (.int (nI 0))) mem) : zOk X d 133 [.int (nI b), .int (nI i)] mem lk L lk L Q := by
  refine zOk_do 20 (tbl := tX8_has) zck_133 rfl hd (h := ?_)
  refine ⟨fun c => ⟨rfl, rfl, rfl, ?_⟩, fun c => ⟨rfl, rfl, rfl, ?_⟩⟩
  · have c : ¬ (nI b >>> (nI i &&& 31)) &&& nI 1 = nI 1 := c
    rw [zsh8_t i hi b hb, nEq (by omega) (by omega)] at c
    exact q0 (by omega)
  · have c : (nI b >>> (nI i &&& 31)) &&& nI 1 = nI 1 := c
    rw [zsh8_t i hi b hb, nEq (by omega) (by omega)] at c
    exact q1 c
theorem mst_fin {A B G t : Nat} {x y z : Int32} {v11 v13 v14 : Value} (ht : t ≤ 1) (hA : A ≤ 100000000) (hB : B ≤ 100000000) (hG : 0 < G) (hG2 : G ≤ 100000000) (q : Q (some (.long (lN (if t = 0 then A / G else B / G)))) mem) : zE X d 199 224 [.ref 1000, .int x, .int y, .int z, .int (nI t), .long (lN A), zU, .long (lN B), zU, .long (lN G), zU, v11, zU, v13, v14] [] mem lk L lk L Q := by
  have hne : ¬ lN G = 0 := fun z => by
    have := (pk_lEQ (a := G) (b := 0) (by omega) (by omega)).mp z
    omega
  refine zE_do 40 224 (tbl := tX8_stuck) zck_199 rfl (h := ?_)
  refine ⟨fun c => ⟨hne, rfl, rfl, ?_⟩, fun c => ⟨hne, rfl, rfl, ?_⟩⟩
  · have c : ¬ nI t = 0 := c
    rw [n0 (by omega)] at c
    rw [if_neg c, ← pk_lDiv (by omega) hG (by omega)] at q
    exact q
  · have c : nI t = 0 := c
    rw [n0 (by omega)] at c
    rw [if_pos c, ← pk_lDiv (by omega) hG (by omega)] at q
    exact q
theorem mgcd_loop {A B t : Nat} {x y z : Int32} (ht : t ≤ 1) (hA : A ≤ 100000000) (hB : B ≤ 100000000) (hB0 : 0 < B) (q : Q (some (.long (lN (if t = 0 then A / Nat.gcd A B else B / Nat.gcd A B)))) mem) : ∀ m a b v13 v14, b ≤ m → a ≤ 100000000 → b ≤ 100000000 → Nat.gcd a b = Nat.gcd A B → zE X d 199 199 [.ref 1000, .int x, .int y, .int z, .int (nI t), .long (lN A), zU, .long (lN B), zU, .long (lN a), zU, .long (lN b), zU, v13, v14] [] mem lk L lk L Q := by
  have hgp : 0 < Nat.gcd A B := Nat.gcd_pos_of_pos_right _ hB0
  intro m
  induction m with
  | zero =>
    intro a b v13 v14 hm ha hb hg
    have hb0 : b = 0 := Nat.le_zero.mp hm
    subst hb0
    rw [Nat.gcd_zero_right] at hg
    rw [← hg] at q hgp
    refine zgoc [224] 40 199 (tbl := tX8_stuck) zck_199 rfl (h := ?_)
    exact ⟨fun _ => mst_fin ht hA hB hgp ha q, fun c => absurd ((zl0 (x := 0) (by omega)).mpr rfl) c⟩
  | succ m ih =>
    intro a b v13 v14 hm ha hb hg
    refine zgoc [224] 40 199 (tbl := tX8_stuck) zck_199 rfl (h := ?_)
    refine ⟨fun c => ?_, fun c => ?_⟩
    · have c := (zl0 (x := b) (by omega)).mp c
      subst c
      rw [Nat.gcd_zero_right] at hg
      rw [← hg] at q hgp
      exact mst_fin ht hA hB hgp ha q
    · have c : ¬ b = 0 := fun z => c ((zl0 (x := b) (by omega)).mpr z)
      have hne : ¬ lN b = 0 := fun z => c ((pk_lEQ (a := b) (b := 0) (by omega) (by omega)).mp z)
      have hr : a % b < b := Nat.mod_lt _ (by omega)
      have k := fun v13 v14 => ih b (a % b) v13 v14 (by omega) hb (by omega) (by rw [← hg, Nat.gcd_comm a b, Nat.gcd_rec b a, Nat.gcd_comm])
      rw [← pk_lRem (show a < 2 ^ 63 by omega) (show 0 < b by omega) (by omega)] at k
      exact ⟨hne, k _ _⟩
theorem mst_inner {e n p s U B : Nat} {t : Int32} (hn : n ≤ 8) (hp : p ≤ 10) (hs : s < 256) (hd : 4 < d) (hw : lk 1000 = some 2000) : ∀ k i h w mem v13 v14, i + k = n → w ≤ 10 ^ i → zRw mem 43 h → zWF h → e < h 0 → h 6 + k ≤ 999999 →
    (∀ mem' v10 v11 v12 v13 v14, ztfr mem mem' → zE X d 199 79 [.ref 1000, .int (nI e), .int (nI n), .int (nI p), .int t, .long (lN (U + w * ztm e p k h (s / 2 ^ i))), zU, .long (lN B), zU, .int (nI (s + 1)), v10, v11, v12, v13, v14] [] mem' lk L lk L Q) → zE X d 199 97 [.ref 1000, .int (nI e), .int (nI n), .int (nI p), .int t, .long (lN U), zU, .long (lN B), zU, .int (nI s), .long (lN w), zU, .int (nI i), v13, v14] [] mem lk L lk L Q := by
  intro k
  induction k with
  | zero =>
    intro i h w mem v13 v14 hi hw10 hr wf he h6 q
    have w0 := wf.1
    have c1 : nI n ≤ nI i := by rw [nLe (by omega) (by omega)]; omega
    have h11 := wf.at11 e he
    have ea : mem (2000 + (nI 56 + nI e).toNatClampNeg) = nI (h (13 + e)) := by rw [zw1 (by omega), show 2000 + (56 + e) = 2000 + 43 + 13 + e by omega]; exact hr.1.at he
    unfold ztm at q
    rw [show nI (s + 1) = nI s + nI 1 from (nI_add s 1).symm] at q
    refine zE_do 60 97 (tbl := tX8_stuck) zck_199 rfl (h := ?_)
    refine ⟨fun _ => ⟨rfl, _, hw, Or.inl rfl, zwi1 (by omega), fun c => ?_, fun c => ?_⟩, fun c => absurd c1 c⟩
    · have c : ¬ mem (2000 + (nI 56 + nI e).toNatClampNeg) = nI 11 := c
      rw [ea, nEq (by omega) (by omega)] at c
      rw [if_neg c, Nat.mul_zero, ← lN_add] at q
      exact q mem _ _ _ _ _ ztfr.rf
    · have c : mem (2000 + (nI 56 + nI e).toNatClampNeg) = nI 11 := c
      rw [ea, nEq (by omega) (by omega)] at c
      rw [if_pos c, Nat.mul_one, ← lN_add] at q
      exact q mem _ _ _ _ _ ztfr.rf
  | succ k ih =>
    intro i h w mem v13 v14 hi hw10 hr wf he h6 q
    have w0 := wf.1
    have c1 : ¬ nI n ≤ nI i := by rw [nLe (by omega) (by omega)]; omega
    have h108 := z10_8 (show i ≤ 8 by omega)
    obtain ⟨s1, s2, s3⟩ := zstuck_wf wf (by omega)
    have p1 := zpass_wf (ord := fun e => e) wf (by omega)
    have p2 : zpass (fun e => e) h 0 = h 0 := zpass_ne wf.1 (by omega) (by omega) (by omega) (by omega)
    have p3 : zpass (fun e => e) h 6 = h 6 + 1 := zpass_6 wf.1
    have ed : s / 2 ^ i / 2 = s / 2 ^ (i + 1) := by rw [Nat.div_div_eq_div_mul, Nat.pow_succ]
    unfold ztm at q
    rw [ed] at q
    have K : ∀ bit w', bit = s / 2 ^ i % 2 → w' = w * (if bit = 1 then p else 10 - p) → zE X d 199 128 [.ref 1000, .int (nI e), .int (nI n), .int (nI p), .int t, .long (lN U), zU, .long (lN B), zU, .int (nI s), .long (lN w'), zU, .int (nI i), v13, v14] [] mem lk L lk L Q := fun bit w' hb hw' => by
      have hw'10 : w' ≤ 10 ^ (i + 1) := by
        rw [hw', Nat.pow_succ]
        exact Nat.mul_le_mul hw10 (by split <;> omega)
      refine zgoc [154] 60 128 (tbl := tX8_stuck) zck_199 rfl (h := ?_)
      refine ok_has8 (by omega) hs (by omega) (fun hb1 => zT_eq ⟨rfl, ok_mcools (went := False) (r := 43) (v := 0) (by rw [if_neg (fun z => z)]) (by omega) hw (by omega) hr.1 wf (by omega) (fun m1 hb1' f1 => ?_)⟩) (fun hb0 => zF_eq ⟨rfl, ok_mpasses (r := 43) (by omega) hw (by omega) hr.1 wf (by omega) hr.2 (fun m1 hb1' f1 => ?_)⟩)
      · rw [if_pos hb1, if_pos hb1] at q
        have k1 := ih (i + 1) (zstuck h) w' m1 v13 v14 (by omega) hw'10 (hr.to hb1' s2 f1) s1 (by omega) (by omega) (fun m2 v10 v11 v12 v13 v14 f2 => by
          rw [hw', hb, if_pos hb1, Nat.mul_assoc]
          exact q m2 v10 v11 v12 v13 v14 (f1.t.tr f2))
        rw [show nI (i + 1) = nI i + nI 1 from (nI_add i 1).symm] at k1
        refine zE_do 60 154 (tbl := tX8_stuck) zck_199 rfl (h := ?_)
        exact k1
      · rw [if_neg (by omega), if_neg (by omega)] at q
        have k1 := ih (i + 1) (zpass (fun e => e) h) w' m1 v13 v14 (by omega) hw'10 (hr.to hb1' p2 f1) p1 (by omega) (by omega) (fun m2 v10 v11 v12 v13 v14 f2 => by
          rw [hw', hb, if_neg (by omega), Nat.mul_assoc]
          exact q m2 v10 v11 v12 v13 v14 (f1.t.tr f2))
        rw [show nI (i + 1) = nI i + nI 1 from (nI_add i 1).symm] at k1
        refine zE_do 60 154 (tbl := tX8_stuck) zck_199 rfl (h := ?_)
        exact k1
    refine zgoc [128] 60 97 (tbl := tX8_stuck) zck_199 rfl (h := ?_)
    refine ⟨fun c => absurd c c1, fun _ => ok_has8 (by omega) hs (by omega) (fun hb1 => zT_eq ?_) (fun hb0 => zF_eq ?_)⟩
    · have k1 := K 1 (w * p) hb1.symm (by rw [if_pos rfl])
      rw [← lN_mul, ← nI_l (n := p) (by omega)] at k1
      exact k1
    · have k1 := K 0 (w * (10 - p)) hb0.symm (by rw [if_neg (by omega)])
      rw [← lN_mul, ← nI_l (n := 10 - p) (by omega), ← nsub hp (by omega)] at k1
      exact k1
theorem mst_sets {e n p t B : Nat} (hn : n ≤ 8) (hp : p ≤ 10) (ht : t ≤ 1) (hB : B = 10 ^ n) (hd : 4 < d) (hw : lk 1000 = some 2000) (wf : zWF g) (he : e < g 0) (h6 : g 6 ≤ 999) : ∀ m s mem v10 v11 v12 v13 v14, s + m = 2 ^ n → zRw mem 0 g → (∀ mem', ztfr mem mem' → Q (some (.long (lN (zstA e p n t g)))) mem') → zE X d 199 79 [.ref 1000, .int (nI e), .int (nI n), .int (nI p), .int (nI t), .long (lN (zus e p n g s)), zU, .long (lN B), zU, .int (nI s), v10, v11, v12, v13, v14] [] mem lk L lk L Q := by
  have w0 := wf.1
  have hc := zcs_le e hp n g
  have h8 := z10_8 hn
  have h2n : 2 ^ n ≤ 2 ^ 8 := Nat.pow_le_pow_right (by omega) hn
  intro m
  induction m with
  | zero =>
    intro s mem v10 v11 v12 v13 v14 hs hr q
    have c1 : nI 1 <<< (nI n &&& 31) ≤ nI s := by rw [zsl8_t n hn, nLe (by omega) (by omega)]; omega
    have hB0 : 0 < B := by rw [hB]; exact Nat.pow_pos (by omega)
    have hz := zus_cs e hp n g wf he (by omega)
    unfold zstA at q
    have p1 := q mem ztfr.rf
    rw [← hz, ← hB, show 2 ^ n = s by omega] at p1
    have hU : zus e p n g s ≤ 100000000 := by rw [show s = 2 ^ n by omega, hz]; omega
    generalize zus e p n g s = U at p1 hU ⊢
    refine zgoc [199] 60 79 (tbl := tX8_stuck) zck_199 rfl (h := ?_)
    exact ⟨fun _ => mgcd_loop ht hU (by omega) hB0 p1 B U B _ _ (Nat.le_refl _) hU (by omega) rfl, fun c => absurd c1 c⟩
  | succ m ih =>
    intro s mem v10 v11 v12 v13 v14 hs hr q
    have c1 : ¬ nI 1 <<< (nI n &&& 31) ≤ nI s := by rw [zsl8_t n hn, nLe (by omega) (by omega)]; omega
    have inn : ∀ m1, zRw m1 43 g → ztfr mem m1 → ∀ v13 v14, zE X d 199 97 [.ref 1000, .int (nI e), .int (nI n), .int (nI p), .int (nI t), .long (lN (zus e p n g s)), zU, .long (lN B), zU, .int (nI s), .long (lN 1), zU, .int (nI 0), v13, v14] [] m1 lk L lk L Q := fun m1 hr1 f1 v13 v14 => by
      refine mst_inner hn hp (by omega) hd hw n 0 g 1 m1 v13 v14 (by omega) (by rw [Nat.pow_zero]; exact Nat.le_refl _) hr1 wf he (by omega) (fun m2 v10 v11 v12 v13 v14 f2 => ?_)
      have k1 := ih (s + 1) m2 v10 v11 v12 v13 v14 (by omega) (hr.same w0 (fun j hj => (f1.tr f2) _ (by omega))) (fun m3 f3 => q m3 ((f1.tr f2).tr f3))
      rw [show 1 * ztm e p n g (s / 2 ^ 0) = ztm e p n g s by rw [Nat.one_mul, Nat.pow_zero, Nat.div_one]]
      exact k1
    generalize zus e p n g s = U at inn ⊢
    refine zE_do 60 79 (tbl := tX8_stuck) zck_199 rfl (h := ?_)
    exact ⟨fun c => absurd c c1, fun _ => ⟨rfl, ok_tries (by omega) hw hr w0 (fun m1 hr1 f1 => inn m1 hr1 f1 _ _)⟩⟩
theorem mst_pow {e n p t : Nat} (hn : n ≤ 8) (hp : p ≤ 10) (ht : t ≤ 1) (hd : 4 < d) (hw : lk 1000 = some 2000) (wf : zWF g) (he : e < g 0) (h6 : g 6 ≤ 999) (hr : zRw mem 0 g) (q : ∀ mem', ztfr mem mem' → Q (some (.long (lN (zstA e p n t g)))) mem') : ∀ m k v10 v11 v12 v13 v14, k + m = n → zE X d 199 56 [.ref 1000, .int (nI e), .int (nI n), .int (nI p), .int (nI t), .long (lN 0), zU, .long (lN (10 ^ k)), zU, .int (nI k), v10, v11, v12, v13, v14] [] mem lk L lk L Q := by
  intro m
  induction m with
  | zero =>
    intro k v10 v11 v12 v13 v14 hk
    have c1 : nI n ≤ nI k := by rw [nLe (by omega) (by omega)]; omega
    have k1 := mst_sets (X := X) (L := L) (B := 10 ^ k) hn hp ht (by rw [show k = n by omega]) hd hw wf he h6 (2 ^ n) 0 mem v10 v11 v12 v13 v14 (by omega) hr q
    refine zE_do 60 56 (tbl := tX8_stuck) zck_199 rfl (h := ?_)
    exact ⟨fun _ => k1, fun c => absurd c1 c⟩
  | succ m ih =>
    intro k v10 v11 v12 v13 v14 hk
    have c1 : ¬ nI n ≤ nI k := by rw [nLe (by omega) (by omega)]; omega
    have kk := ih (k + 1) v10 v11 v12 v13 v14 (by omega)
    rw [show nI (k + 1) = nI k + nI 1 from (nI_add k 1).symm, Nat.pow_succ, ← lN_mul] at kk
    refine zE_do 60 56 (tbl := tX8_stuck) zck_199 rfl (h := ?_)
    exact ⟨fun c => absurd c c1, fun _ => kk⟩
theorem ok_mstuck {x y z w : Int32} (hd : 5 < d) (hw : lk 1000 = some 2000) (hr : zRw mem 0 g) (hN : zNow g)
    (qB : ((x.toInt < 0 ∨ (g 0 : Int) ≤ x.toInt) ∨ (y.toInt < 0 ∨ 8 < y.toInt) ∨ (z.toInt < 0 ∨ 10 < z.toInt) ∨ (w.toInt < 0 ∨ 1 < w.toInt)) → Q (some (.long (-(lN 1000001)))) mem)
    (q : ∀ e n p t, e < g 0 → x = nI e → n ≤ 8 → y = nI n → p ≤ 10 → z = nI p → t ≤ 1 → w = nI t → ∀ mem', ztfr mem mem' → Q (some (.long (lN (zstA e p n t g)))) mem') : zOk X d 199 [.ref 1000, .int x, .int y, .int z, .int w] mem lk L lk L Q := by
  refine zOk_do 90 (tbl := tX8_stuck) zck_199 rfl (by omega) (h := ?_)
  refine ⟨rfl, ok_misDish (by omega) hw hr.1 hN.le.1 (fun e he ex => zT_eq ?_) (fun c => zF_eq ⟨rfl, rfl, qB (Or.inl c)⟩)⟩
  refine ok_min (a := 0) (b := 8) (by omega) (by omega) (by omega) (fun c => zF_eq ⟨rfl, rfl, qB (Or.inr (Or.inl (by omega)))⟩) (fun n h1 h2 ey => zT_eq ?_)
  refine ok_min (a := 0) (b := 10) (by omega) (by omega) (by omega) (fun c => zF_eq ⟨rfl, rfl, qB (Or.inr (Or.inr (Or.inl (by omega))))⟩) (fun p h3 h4 ez => zT_eq ?_)
  refine ok_min (a := 0) (b := 1) (by omega) (by omega) (by omega) (fun c => zF_ne ⟨rfl, rfl, qB (Or.inr (Or.inr (Or.inr (by omega))))⟩) (fun t h5 h6 ew => zT_ne ?_)
  have p1 := q e n p t he ex h2 ey h4 ez h6 ew
  subst ex ey ez ew
  have wf := hN.wf (by omega)
  exact mst_pow h2 h4 h6 (by omega) hw wf.1 he wf.2 hr p1 n 0 _ _ _ _ _ (by omega)
end MS
