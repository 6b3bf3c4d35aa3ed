/-! the reference: here, fails, takes, takesNumber, kindOf -/
def zTm (mem : zMem) (b : Nat → Nat) (n p : Nat) : Prop := mem 1003 = nI n ∧ mem 1010 = nI p ∧ ∀ i, i < n → mem (3300 + i) = nI (b i)
def zrfr (mem mem' : zMem) : Prop := ∀ x, x ≠ 1004 → x ≠ 1010 → x ≠ 1011 → x ≠ 1012 → mem' x = mem x
theorem zrfr.rf {mem : zMem} : zrfr mem mem := fun _ _ _ _ _ => rfl
theorem zrfr.tr {m1 m2 m3 : zMem} (h : zrfr m1 m2) (h' : zrfr m2 m3) : zrfr m1 m3 := fun x a b c e => (h' x a b c e).trans (h x a b c e)
theorem zTm.fr {mem mem' : zMem} {b : Nat → Nat} {n p p' : Nat} (h : zTm mem b n p) (hn : n ≤ 110) (h5 : mem' 1010 = nI p') (hf : zrfr mem mem') : zTm mem' b n p' :=
  ⟨by rw [hf _ (by omega) (by omega) (by omega) (by omega)]; exact h.1, h5, fun i hi => by rw [hf _ (by omega) (by omega) (by omega) (by omega)]; exact h.2.2 i hi⟩
theorem zn1T : (-(nI 1)).toInt = -1 := by decide
theorem nm1_ne {c : Nat} (hc : c < 2147483648) : ¬ -(nI 1) = nI c := fun h => by
  have := congrArg Int32.toInt h
  rw [zn1T, nT hc] at this
  omega
theorem zrN_fig {b : Nat → Nat} {n p k : Nat} (h : ∀ j, j < k → zfig b n (p + j) = true) (h2 : zfig b n (p + k) = false) : (k ≤ 2 → zfgc b n p = k) ∧ (3 ≤ k → zfgc b n p = 3) :=
  ⟨fun z => zfgc_eq (by omega) h (Or.inr h2), fun z => zfgc_eq (by omega) (fun j hj => h j (by omega)) (Or.inl rfl)⟩
section MT
variable {X d : Nat} {mem : zMem} {lk : zLk} {L : List Nat} {Q : Option Value → zMem → Prop} {b : Nat → Nat} {n p : Nat}
theorem zML.tp {lk : zLk} (h : zML lk) : lk 1002 = some 3300 := h.2.1
theorem inT110 {X s : Nat} (h : s < 110) : vp_in (nI s) (ln X 3300) := vp_in_nI h (by show 110 < 2 ^ 31; decide)
theorem ok_here (hd : 0 < d) (hk : zML lk) (T : zTm mem b n p) (B : zby b n) (hp : p ≤ n) (q1 : p < n → Q (some (.int (nI (b p)))) mem) (q0 : ¬ p < n → Q (some (.int (-(nI 1)))) mem) : zOk X d 147 [.ref 1000] mem lk L lk L Q := by
  obtain ⟨t1, t2, t3⟩ := T
  obtain ⟨b1, b2⟩ := B
  have t1' : mem (1000 + 3) = nI n := t1
  have t2' : mem (1000 + 10) = nI p := t2
  refine zOk_do 40 (tbl := tX8_here) zck_147 rfl (by omega) (h := ?_)
  refine ⟨rfl, rfl, fun c => ⟨rfl, rfl, q0 ?_⟩, fun c => ⟨rfl, _, hk.tp, rfl, Or.inl rfl, ?_, rfl, rfl, ?_⟩⟩
  · have c : mem (1000 + 3) ≤ mem (1000 + 10) := c
    rw [t1', t2', nLe (by omega) (by omega)] at c
    omega
  · have c : ¬ mem (1000 + 3) ≤ mem (1000 + 10) := c
    rw [t1', t2', nLe (by omega) (by omega)] at c
    rw [t2']; exact inT110 (by omega)
  · have c : ¬ mem (1000 + 3) ≤ mem (1000 + 10) := c
    rw [t1', t2', nLe (by omega) (by omega)] at c
    have e1 : mem (3300 + (mem (1000 + 10)).toNatClampNeg) = nI (b p) := by rw [t2', nC (by omega)]; exact t3 p (by omega)
    have p1 := q1 (by omega)
    rw [← e1] at p1
    exact p1
theorem ok_mfails {f : Nat} {y : Int32} (hd : 0 < d) (q : Q (some (.int (nI 0))) (upd (upd mem 1004 (nI f)) 1011 y)) : zOk X d 148 [.ref 1000, .int (nI f), .int y] mem lk L lk L Q := by
  refine zOk_do 20 (tbl := tX8_fails) zck_148 rfl (by omega) (h := ?_)
  exact ⟨rfl, rfl, rfl, rfl, rfl, q⟩
theorem ok_takes {c : Nat} (hd : 1 < d) (hk : zML lk) (T : zTm mem b n p) (B : zby b n) (hp : p ≤ n) (hc : c ≤ 255)
    (q1 : (∀ k, zrB b n p c k = k (p + 1)) → p < n → ∀ mem', mem' 1010 = nI (p + 1) → mem' 1004 = mem 1004 → mem' 1012 = mem 1012 → zrfr mem mem' → Q (some (.int (nI 1))) mem')
    (q0 : (∀ k, zrB b n p c k = (1, p, z0)) → ∀ mem', mem' 1004 = nI 1 → mem' 1011 = nI p → zrfr mem mem' → Q (some (.int (nI 0))) mem') : zOk X d 149 [.ref 1000, .int (nI c)] mem lk L lk L Q := by
  have t2' : mem (1000 + 10) = nI p := T.2.1
  have b1 := B.1
  have k0 : ¬ (p < n ∧ b p = c) → Q (some (.int (nI 0))) (upd (upd mem 1004 (nI 1)) 1011 (mem (1000 + 10))) := fun z => q0 (fun k => by unfold zrB; rw [if_neg z]) _ (by rw [upd_ne (by omega), upd_eq]) (by rw [upd_eq]; exact t2') (fun x h1 h2 h3 h4 => by rw [upd_ne h3, upd_ne h1])
  refine zOk_do 40 (tbl := tX8_takes) zck_149 rfl (by omega) (h := ?_)
  refine ⟨rfl, ok_here (by omega) hk T B hp (fun hpn => ⟨fun c1 => ⟨rfl, rfl, rfl, rfl, rfl, ?_⟩, fun c1 => ⟨rfl, rfl, ok_mfails (by omega) ⟨rfl, rfl, rfl, k0 ?_⟩⟩⟩) (fun hpn => ⟨fun c1 => absurd c1 (nm1_ne (by omega)), fun c1 => ⟨rfl, rfl, ok_mfails (by omega) ⟨rfl, rfl, rfl, k0 (fun z => hpn z.1)⟩⟩⟩)⟩
  · have hb := B.2 p hpn
    have c1 : nI (b p) = nI c := c1
    rw [nEq (by omega) (by omega)] at c1
    refine q1 (fun k => by unfold zrB; rw [if_pos ⟨hpn, c1⟩]) hpn _ ?_ (upd_ne (by omega)) (upd_ne (by omega)) (fun x _ h2 _ _ => upd_ne h2)
    show upd mem 1010 (mem (1000 + 10) + nI 1) 1010 = _
    rw [upd_eq, t2', nI_add]
  · have hb := B.2 p hpn
    have c1 : ¬ nI (b p) = nI c := c1
    rw [nEq (by omega) (by omega)] at c1
    exact fun z => c1 z.2
theorem tnum_fin {lo hi k : Nat} (hlo : lo ≤ 1000) (hhi : hi ≤ 1000) (hd : 1 < d) (B : zby b n) (hp : p + k ≤ n) (h10 : mem 1010 = nI (p + k)) (h12 : k ≤ 2 → mem 1012 = nI (zval b p k)) (hfg : ∀ j, j < k → zfig b n (p + j) = true) (hno : zfig b n (p + k) = false)
    (qF : ∀ f, f ≠ 0 → (∀ k, zrN b n p lo hi k = (f, p, z0)) → ∀ mem', mem' 1004 = nI f → mem' 1011 = nI p → zrfr mem mem' → Q (some (.int (nI 0))) mem')
    (qT : ∀ p' v, (∀ k, zrN b n p lo hi k = k p' v) → lo ≤ v → v ≤ hi → p' ≤ n → ∀ mem', mem' 1010 = nI p' → mem' 1004 = mem 1004 → mem' 1012 = nI v → zrfr mem mem' → Q (some (.int (nI 1))) mem') : zE X d 150 76 [.ref 1000, .int (nI lo), .int (nI hi), .int (nI p)] [] mem lk L lk L Q := by
  have b1 := B.1
  have h10' : mem (1000 + 10) = nI (p + k) := h10
  have hd1 : (mem (1000 + 10) - nI p).toInt64.toInt = (k : Int) := by rw [il_T, h10', nsub (by omega) (by omega), show p + k - p = k by omega, nT (by omega)]
  obtain ⟨z1, z2⟩ := zrN_fig hfg hno
  have up : ∀ f, zrfr mem (upd (upd mem 1004 (nI f)) 1011 (nI p)) := fun f x a1 a2 a3 a4 => by rw [upd_ne a3, upd_ne a1]
  refine zE_do 60 76 (tbl := tX8_takesNumber) zck_150 rfl (h := ?_)
  refine ⟨rfl, ok_in (by omega) (fun c1 c2 => zT_ne ?_) (fun c => zF_ne ⟨rfl, ok_mfails (by omega) ⟨rfl, rfl, rfl, ?_⟩⟩)⟩
  · have c1 : (lN 1).toInt ≤ (mem (1000 + 10) - nI p).toInt64.toInt := c1
    have c2 : (mem (1000 + 10) - nI p).toInt64.toInt ≤ (lN 2).toInt := c2
    rw [hd1, l_T (by omega)] at c1 c2
    have ez := z1 (by omega)
    have hv := h12 (by omega)
    have hv' : mem (1000 + 12) = nI (zval b p k) := hv
    have hvl : zval b p k < 10 ^ k := zval_lt _ hfg
    have h100 : 10 ^ k ≤ 10 ^ 2 := Nat.pow_le_pow_right (by omega) (by omega)
    have hN : ∀ kk, zrN b n p lo hi kk = if zval b p k < lo ∨ hi < zval b p k then (2, p, z0) else kk (p + k) (zval b p k) := fun kk => by unfold zrN; rw [ez, if_neg (by omega)]
    have ev : (mem (1000 + 12)).toInt64.toInt = (zval b p k : Int) := by rw [il_T, hv', nT (by omega)]
    have el : (nI lo).toInt64.toInt = (lo : Int) := by rw [il_T, nT (by omega)]
    have eh : (nI hi).toInt64.toInt = (hi : Int) := by rw [il_T, nT (by omega)]
    refine ⟨rfl, ok_in (by omega) (fun d1 d2 => zT_ne ⟨rfl, rfl, rfl, ?_⟩) (fun dd => zF_ne ⟨rfl, ok_mfails (by omega) ⟨rfl, rfl, rfl, ?_⟩⟩)⟩
    · have d1 : (nI lo).toInt64.toInt ≤ (mem (1000 + 12)).toInt64.toInt := d1
      have d2 : (mem (1000 + 12)).toInt64.toInt ≤ (nI hi).toInt64.toInt := d2
      rw [ev, el] at d1
      rw [ev, eh] at d2
      exact qT (p + k) (zval b p k) (fun kk => by rw [hN, if_neg (by omega)]) (by omega) (by omega) (by omega) mem h10 rfl hv zrfr.rf
    · have dd : (mem (1000 + 12)).toInt64.toInt < (nI lo).toInt64.toInt ∨ (nI hi).toInt64.toInt < (mem (1000 + 12)).toInt64.toInt := dd
      rw [ev, el, eh] at dd
      exact qF 2 (by omega) (fun kk => by rw [hN, if_pos (by omega)]) _ (by rw [upd_ne (by omega), upd_eq]) upd_eq (up 2)
  · have c : (mem (1000 + 10) - nI p).toInt64.toInt < (lN 1).toInt ∨ (lN 2).toInt < (mem (1000 + 10) - nI p).toInt64.toInt := c
    rw [hd1, l_T (by omega), l_T (by omega)] at c
    refine qF 1 (by omega) (fun kk => ?_) _ (by rw [upd_ne (by omega), upd_eq]) upd_eq (up 1)
    unfold zrN
    rw [if_pos]
    by_cases z : k = 0
    · exact Or.inl (by rw [z1 (by omega)]; exact z)
    · exact Or.inr (z2 (by omega))
theorem tnum_loop {lo hi : Nat} (hlo : lo ≤ 1000) (hhi : hi ≤ 1000) (hd : 1 < d) (hk : zML lk) (B : zby b n) : ∀ m k mem, p + k + m = n → zTm mem b n (p + k) → (k ≤ 2 → mem 1012 = nI (zval b p k)) → (∀ j, j < k → zfig b n (p + j) = true) →
    (∀ f, f ≠ 0 → (∀ k, zrN b n p lo hi k = (f, p, z0)) → ∀ mem', mem' 1004 = nI f → mem' 1011 = nI p → zrfr mem mem' → Q (some (.int (nI 0))) mem') →
    (∀ p' v, (∀ k, zrN b n p lo hi k = k p' v) → lo ≤ v → v ≤ hi → p' ≤ n → ∀ mem', mem' 1010 = nI p' → mem' 1004 = mem 1004 → mem' 1012 = nI v → zrfr mem mem' → Q (some (.int (nI 1))) mem') →
    zE X d 150 10 [.ref 1000, .int (nI lo), .int (nI hi), .int (nI p)] [] mem lk L lk L Q := by
  have b1 := B.1
  intro m
  induction m with
  | zero =>
    intro k mem hm T h12 hfg qF qT
    have hno : zfig b n (p + k) = false := zfig_f.mpr (fun z => by omega)
    have fin := tnum_fin (X := X) (lk := lk) (L := L) hlo hhi hd B (by omega) T.2.1 h12 hfg hno qF qT
    refine zgoc [76] 60 10 (tbl := tX8_takesNumber) zck_150 rfl (h := ?_)
    refine ⟨rfl, ok_here (by omega) hk T B (by omega) (fun z => by omega) (fun _ => ok_in (by omega) (fun c1 c2 => ?_) (fun _ => zF_eq fin))⟩
    exfalso
    have c1 : (lN 48).toInt ≤ (-(nI 1)).toInt64.toInt := c1
    rw [il_T, zn1T, l_T (by omega)] at c1
    omega
  | succ m ih =>
    intro k mem hm T h12 hfg qF qT
    have hpk : p + k < n := by omega
    have hb := B.2 _ hpk
    obtain ⟨t1, t2, t3⟩ := id T
    have t2' : mem (1000 + 10) = nI (p + k) := t2
    have eb : (nI (b (p + k))).toInt64.toInt = (b (p + k) : Int) := by rw [il_T, nT (by omega)]
    refine zgoc [76] 60 10 (tbl := tX8_takesNumber) zck_150 rfl (h := ?_)
    refine ⟨rfl, ok_here (by omega) hk T B (by omega) (fun _ => ok_in (by omega) (fun c1 c2 => zT_eq ⟨rfl, fun c3 => ⟨rfl, rfl, rfl, rfl, ?_⟩, fun c3 => ⟨rfl, rfl, ok_here (by omega) hk T B (by omega) (fun _ => ⟨rfl, rfl, rfl, ?_⟩) (fun z => absurd hpk z)⟩⟩) (fun c => zF_eq ?_)) (fun z => absurd hpk z)⟩
    · have c1 : (lN 48).toInt ≤ (nI (b (p + k))).toInt64.toInt := c1
      have c2 : (nI (b (p + k))).toInt64.toInt ≤ (lN 57).toInt := c2
      have c3 : nI 2 ≤ mem (1000 + 10) - nI p := c3
      rw [eb, l_T (by omega)] at c1 c2
      rw [t2', nsub (by omega) (by omega), nLe (by omega) (by omega)] at c3
      have hf : zrfr mem (upd (upd mem (1000 + 12) (mem (1000 + 12))) (1000 + 10) (upd mem (1000 + 12) (mem (1000 + 12)) (1000 + 10) + nI 1)) := fun x a1 a2 a3 a4 => by rw [upd_ne a2, upd_ne a4]
      have e10 : upd (upd mem (1000 + 12) (mem (1000 + 12))) (1000 + 10) (upd mem (1000 + 12) (mem (1000 + 12)) (1000 + 10) + nI 1) 1010 = nI (p + (k + 1)) := by
        show upd _ 1010 _ 1010 = _
        rw [upd_eq, upd_ne (by omega), t2', nI_add]
        rfl
      have e4 : upd (upd mem (1000 + 12) (mem (1000 + 12))) (1000 + 10) (upd mem (1000 + 12) (mem (1000 + 12)) (1000 + 10) + nI 1) 1004 = mem 1004 := by rw [upd_ne (by omega), upd_ne (by omega)]
      exact ih (k + 1) _ (by omega) (T.fr b1 e10 hf) (fun z => by omega) (fun j hj => by
        by_cases z : j = k
        · subst z; exact zfig_t.mpr ⟨by omega, by omega, by omega⟩
        · exact hfg j (by omega)) (fun f hf0 E m2 a1 a2 f2 => qF f hf0 E m2 a1 a2 (hf.tr f2)) (fun p' v E l1 l2 hp' m2 a1 a2 a3 f2 => qT p' v E l1 l2 hp' m2 a1 (a2.trans e4) a3 (hf.tr f2))
    · have c1 : (lN 48).toInt ≤ (nI (b (p + k))).toInt64.toInt := c1
      have c2 : (nI (b (p + k))).toInt64.toInt ≤ (lN 57).toInt := c2
      have c3 : ¬ nI 2 ≤ mem (1000 + 10) - nI p := c3
      rw [eb, l_T (by omega)] at c1 c2
      rw [t2', nsub (by omega) (by omega), nLe (by omega) (by omega)] at c3
      have hv : mem (1000 + 12) = nI (zval b p k) := h12 (by omega)
      have hvl : zval b p k < 10 ^ k := zval_lt _ hfg
      have h100 : 10 ^ k ≤ 10 ^ 2 := Nat.pow_le_pow_right (by omega) (by omega)
      have hf : zrfr mem (upd (upd mem (1000 + 12) (nI 10 * mem (1000 + 12) + nI (b (p + k)) - nI 48)) (1000 + 10) (upd mem (1000 + 12) (nI 10 * mem (1000 + 12) + nI (b (p + k)) - nI 48) (1000 + 10) + nI 1)) := fun x a1 a2 a3 a4 => by rw [upd_ne a2, upd_ne a4]
      have e10 : upd (upd mem (1000 + 12) (nI 10 * mem (1000 + 12) + nI (b (p + k)) - nI 48)) (1000 + 10) (upd mem (1000 + 12) (nI 10 * mem (1000 + 12) + nI (b (p + k)) - nI 48) (1000 + 10) + nI 1) 1010 = nI (p + (k + 1)) := by
        show upd _ 1010 _ 1010 = _
        rw [upd_eq, upd_ne (by omega), t2', nI_add]
        rfl
      have e4 : upd (upd mem (1000 + 12) (nI 10 * mem (1000 + 12) + nI (b (p + k)) - nI 48)) (1000 + 10) (upd mem (1000 + 12) (nI 10 * mem (1000 + 12) + nI (b (p + k)) - nI 48) (1000 + 10) + nI 1) 1004 = mem 1004 := by rw [upd_ne (by omega), upd_ne (by omega)]
      have e12 : upd (upd mem (1000 + 12) (nI 10 * mem (1000 + 12) + nI (b (p + k)) - nI 48)) (1000 + 10) (upd mem (1000 + 12) (nI 10 * mem (1000 + 12) + nI (b (p + k)) - nI 48) (1000 + 10) + nI 1) 1012 = nI (zval b p (k + 1)) := by
        rw [upd_ne (by omega)]
        show upd mem 1012 _ 1012 = _
        rw [upd_eq, hv, nmul, nI_add, pk_sub (by omega)]
        rfl
      exact ih (k + 1) _ (by omega) (T.fr b1 e10 hf) (fun z => e12) (fun j hj => by
        by_cases z : j = k
        · subst z; exact zfig_t.mpr ⟨by omega, by omega, by omega⟩
        · exact hfg j (by omega)) (fun f hf0 E m2 a1 a2 f2 => qF f hf0 E m2 a1 a2 (hf.tr f2)) (fun p' v E l1 l2 hp' m2 a1 a2 a3 f2 => qT p' v E l1 l2 hp' m2 a1 (a2.trans e4) a3 (hf.tr f2))
    · have c : (nI (b (p + k))).toInt64.toInt < (lN 48).toInt ∨ (lN 57).toInt < (nI (b (p + k))).toInt64.toInt := c
      rw [eb, l_T (by omega), l_T (by omega)] at c
      have hno : zfig b n (p + k) = false := zfig_f.mpr (fun z => by omega)
      exact tnum_fin (X := X) (lk := lk) (L := L) hlo hhi hd B (by omega) T.2.1 h12 hfg hno qF qT
theorem ok_takesNumber {lo hi : Nat} {y : Int32} (ey : y = nI hi) (hlo : lo ≤ 1000) (hhi : hi ≤ 1000) (hd : 1 < d) (hk : zML lk) (T : zTm mem b n p) (B : zby b n) (hp : p ≤ n)
    (qF : ∀ f, f ≠ 0 → (∀ k, zrN b n p lo hi k = (f, p, z0)) → ∀ mem', mem' 1004 = nI f → mem' 1011 = nI p → zrfr mem mem' → Q (some (.int (nI 0))) mem')
    (qT : ∀ p' v, (∀ k, zrN b n p lo hi k = k p' v) → lo ≤ v → v ≤ hi → p' ≤ n → ∀ mem', mem' 1010 = nI p' → mem' 1004 = mem 1004 → mem' 1012 = nI v → zrfr mem mem' → Q (some (.int (nI 1))) mem') : zOk X d 150 [.ref 1000, .int (nI lo), .int y] mem lk L lk L Q := by
  subst ey
  obtain ⟨t1, t2, t3⟩ := id T
  have t2' : mem (1000 + 10) = nI p := t2
  have f0 : zrfr mem (upd mem (1000 + 12) (nI 0)) := fun x a1 a2 a3 a4 => upd_ne a4
  have k := tnum_loop (X := X) (lk := lk) (L := L) (p := p) hlo hhi hd hk B (n - p) 0 (upd mem (1000 + 12) (nI 0)) (by omega) (T.fr B.1 (by rw [upd_ne (by omega)]; exact t2) f0) (fun _ => upd_eq) (fun j hj => by omega) (fun f hf E m2 a1 a2 f2 => qF f hf E m2 a1 a2 (f0.tr f2)) (fun p' v E l1 l2 hp' m2 a1 a2 a3 f2 => qT p' v E l1 l2 hp' m2 a1 (a2.trans (upd_ne (by omega))) a3 (f0.tr f2))
  rw [← t2'] at k
  refine zOk_do 20 (tbl := tX8_takesNumber) zck_150 rfl (by omega) (h := ?_)
  exact ⟨rfl, rfl, k⟩
theorem ok_mkindOf {y : Int32} (hd : 0 < d) (B : zby b n) (hy : (p < n ∧ y = nI (b p)) ∨ (¬ p < n ∧ y = -(nI 1))) (q : Q (some (.int (nI (zkn b n p)))) mem) : zOk X d 151 [.int y] mem lk L lk L Q := by
  refine zOk_do 60 (tbl := tX8_kindOf) zck_151 rfl (by omega) (h := ?_)
  rcases hy with ⟨hp, ey⟩ | ⟨hp, ey⟩
  · subst ey
    have hb := B.2 p hp
    have nx : ∀ j, j ≤ 255 → (nI (b p) = nI j ↔ b p = j) := fun j hj => nEq (by omega) (by omega)
    unfold zkn zkno at q
    rw [if_pos hp] at q
    refine ⟨fun c1 => ⟨fun c2 => ⟨fun c3 => ⟨fun c4 => ⟨fun c5 => ⟨rfl, rfl, ?_⟩, fun c5 => ⟨rfl, rfl, ?_⟩⟩, fun c4 => ⟨rfl, rfl, ?_⟩⟩, fun c3 => ⟨rfl, rfl, ?_⟩⟩, fun c2 => ⟨rfl, rfl, ?_⟩⟩, fun c1 => ⟨rfl, rfl, ?_⟩⟩
    · have a1 := fun z => c1 ((nx 104 (by omega)).mpr z)
      have a2 := fun z => c2 ((nx 115 (by omega)).mpr z)
      have a3 := fun z => c3 ((nx 114 (by omega)).mpr z)
      have a4 := fun z => c4 ((nx 99 (by omega)).mpr z)
      have a5 := fun z => c5 ((nx 105 (by omega)).mpr z)
      rw [if_neg a4, if_neg a1, if_neg a5, if_neg a3, if_neg a2] at q
      exact q
    · have a := (nx 105 (by omega)).mp c5
      rw [if_neg (by omega), if_neg (by omega), if_pos a] at q
      exact q
    · have a := (nx 99 (by omega)).mp c4
      rw [if_pos a] at q
      exact q
    · have a := (nx 114 (by omega)).mp c3
      rw [if_neg (by omega), if_neg (by omega), if_neg (by omega), if_pos a] at q
      exact q
    · have a := (nx 115 (by omega)).mp c2
      rw [if_neg (by omega), if_neg (by omega), if_neg (by omega), if_neg (by omega), if_pos a] at q
      exact q
    · have a := (nx 104 (by omega)).mp c1
      rw [if_neg (by omega), if_pos a] at q
      exact q
  · subst ey
    unfold zkn at q
    rw [if_neg hp] at q
    refine ⟨fun c1 => ⟨fun c2 => ⟨fun c3 => ⟨fun c4 => ⟨fun c5 => ⟨rfl, rfl, q⟩, fun c5 => absurd c5 (nm1_ne (by omega))⟩, fun c4 => absurd c4 (nm1_ne (by omega))⟩, fun c3 => absurd c3 (nm1_ne (by omega))⟩, fun c2 => absurd c2 (nm1_ne (by omega))⟩, fun c1 => absurd c1 (nm1_ne (by omega))⟩
end MT
