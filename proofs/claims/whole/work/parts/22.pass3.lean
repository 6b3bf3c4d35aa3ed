/-! rows up to the next head of a loop or the next of some places -/
def zwpc (X d y : Nat) (lkf : zLk) (Lf : List Nat) (Q : Option Value → zMem → Prop) (tbl : List zR) (cs : List Nat) : Nat → zK
  | 0, [], _, _, _, _, _ => False
  | 0, r :: _, ls, st, mem, lk, L => zE X d y r.1 ls st mem lk L lkf Lf Q
  | _ + 1, [], _, _, _, _, _ => False
  | n + 1, r :: nxt, ls, st, mem, lk, L => match r.2.2.2.1, cs.any (fun c => Nat.beq c r.1) with
    | 0, false => zst X d lkf Lf Q tbl (zwpc X d y lkf Lf Q tbl cs n) (fun a ls st mem lk L => zE X d y a ls st mem lk L lkf Lf Q) r nxt ls st mem lk L
    | _, _ => zE X d y r.1 ls st mem lk L lkf Lf Q
section ZSC
variable {X d y : Nat} {lkf : zLk} {Lf : List Nat} {Q : Option Value → zMem → Prop}
theorem zwpc_0 {tbl : List zR} {cs : List Nat} (n : Nat) : ∀ ls st mem lk L, ¬ zwpc X d y lkf Lf Q tbl cs n [] ls st mem lk L := fun ls st mem lk L q => by cases n <;> exact q
theorem zwpc_E (hck : zchk y = true) {cs : List Nat} : ∀ (n : Nat) (r : zR) (nxt : List zR) (ls st : List Value) (mem : zMem) (lk : zLk) (L : List Nat), (r :: nxt) <:+ zmT y → zwpc X d y lkf Lf Q (zmT y) cs n (r :: nxt) ls st mem lk L → zE X d y r.1 ls st mem lk L lkf Lf Q
  | 0, r, nxt, ls, st, mem, lk, L, _, h => h
  | n + 1, r, nxt, ls, st, mem, lk, L, hs, h => by
    unfold zwpc at h
    split at h
    · exact zst_E hck (fun r' nxt' ls' st' mem' lk' L' hs' q => zwpc_E hck n r' nxt' ls' st' mem' lk' L' hs' q) (zwpc_0 n) hs h
    · exact h
theorem zgoc {tbl : List zR} (cs : List Nat) (n pc : Nat) (hck : zchk y = true) (ht : zmT y = tbl) {r : zR} {nxt : List zR} {ls st : List Value} {mem : zMem} {lk : zLk} {L : List Nat} (hf : zfrom tbl pc = r :: nxt := by rfl)
    (h : zst X d lkf Lf Q tbl (zwpc X d y lkf Lf Q tbl cs n) (fun a ls st mem lk L => zE X d y a ls st mem lk L lkf Lf Q) r nxt ls st mem lk L) : zE X d y pc ls st mem lk L lkf Lf Q := by
  subst ht
  obtain ⟨f1, f2⟩ := zfrom_ok (zmT y) pc
  rw [hf] at f1
  rw [← f2 r nxt hf]
  exact zst_E hck (fun r' nxt' ls' st' mem' lk' L' hs' q => zwpc_E hck n r' nxt' ls' st' mem' lk' L' hs' q) (zwpc_0 n) f1 h
theorem zOk_doc {as : List Value} {mem : zMem} {lk : zLk} {L : List Nat} {tbl : List zR} (cs : List Nat) (n : Nat) (hck : zchk y = true) (ht : zmT y = tbl) (hd : 0 < d) (hm : zmlB y = true := by rfl) (hsz : (zargs as).length ≤ zmL y := by exact Nat.le_of_ble_eq_true rfl) {r : zR} {nxt : List zR} (hf : zfrom tbl 0 = r :: nxt := by rfl)
    (h : zst X d lk L Q tbl (zwpc X d y lk L Q tbl cs n) (fun a ls st mem' lk' L' => zE X d y a ls st mem' lk' L' lk L Q) r nxt (zpad (zmL y) (zargs as)) [] mem lk L) : zOk X d y as mem lk L lk L Q :=
  zOk_of (zmkB_ok (zmk_in hm)).1 (zmkB_ok (zmk_in hm)).2.1 hd (Nat.le_refl _) hsz (zgoc cs n 0 hck ht (h := h) (hf := hf))
end ZSC
/-! DishLift$House: goOn, pass -/
theorem zabv_t : ∀ f, f < 9 → ∀ c, c < 512 → nI c >>> (nI f &&& 31) = nI (c / 2 ^ f) := by decide +kernel
theorem zblw_t : ∀ f, f < 9 → ∀ c, c < 512 → nI c &&& (nI 1 <<< (nI f &&& 31) - nI 1) = nI (c % 2 ^ f) := by decide +kernel
theorem zdel_t2 : ∀ f, f < 9 → ∀ a, a < 512 → zdel a f / 2 ^ f ≠ 0 → 2 ^ (f + 1) ≤ zdel a f := by decide +kernel
theorem zdel_le (a f : Nat) : zdel a f ≤ a := by
  unfold zdel
  split
  · exact Nat.sub_le _ _
  · exact Nat.le_refl _
theorem zcal_lt2 {g : zH} (w : zWF g) : ∀ i, i ≤ g 0 → zcal g i < 2 ^ g 1
  | 0, _ => Nat.pow_pos (by omega)
  | i + 1, h => by
    have ih := zcal_lt2 w i (by omega)
    obtain ⟨c1, c2, c3, c4, c5⟩ := w.2.2.2.2.2.2.2.2 i (by omega)
    have p9 : ∀ k, k < g 1 → 2 ^ k < 2 ^ g 1 := fun k hk => Nat.pow_lt_pow_right (by omega) hk
    unfold zcal
    split
    · exact Nat.or_lt_two_pow ih (p9 _ (by omega))
    · split
      · exact Nat.or_lt_two_pow ih (p9 _ (by omega))
      · exact ih
theorem zcalled_up {g : zH} (w : zWF g) (h : zcalled g / 2 ^ g 4 ≠ 0) : g 4 + 1 < g 1 := by
  have w1 := w.2.2.1
  have w4 := w.2.2.2.2.2.1
  have h1 := zdel_t2 (g 4) (by omega) _ (zcal_lt w _ (Nat.le_refl _)) h
  have h2 : zcalled g < 2 ^ g 1 := Nat.lt_of_le_of_lt (zdel_le _ _) (zcal_lt2 w _ (Nat.le_refl _))
  exact (Nat.pow_lt_pow_iff_right (a := 2) (by omega)).mp (Nat.lt_of_le_of_lt h1 h2)
theorem zdm {c z : Nat} (h : c ≠ 0) (h1 : c / z = 0) (h2 : c % z = 0) : False := by
  have := Nat.div_add_mod c z
  rw [h1, h2] at this
  omega
theorem zway_ok {g : zH} (w : zWF g) (h : zcalled g ≠ 0) : zway g ≤ 1 ∧ (zway g = 1 → g 4 + 1 < g 1) ∧ (zway g = 0 → 1 ≤ g 4) := by
  have hb : zcalled g % 2 ^ g 4 ≠ 0 → 1 ≤ g 4 := fun q => by
    rcases Nat.eq_zero_or_pos (g 4) with e | e
    · rw [e] at q; simp at q; omega
    · exact e
  unfold zway
  split
  · split
    · rename_i c; exact ⟨by omega, fun q => by omega, fun _ => hb (fun q => zdm h c q)⟩
    · rename_i c; exact ⟨by omega, fun _ => zcalled_up w c, fun q => by omega⟩
  · split
    · rename_i c; exact ⟨by omega, fun _ => zcalled_up w (fun q => zdm h q c), fun q => by omega⟩
    · rename_i c; exact ⟨by omega, fun q => by omega, fun _ => hb c⟩
theorem zmove_wf {g : zH} (w : zWF g) : zWF (zmove g) := by
  unfold zmove
  split
  · exact w
  · rename_i c
    obtain ⟨h1, h2, h3⟩ := zway_ok w c
    have w4 := w.2.2.2.2.2.1
    refine (w.s5 h1).s4 ?_
    rw [zup_ne (by omega)]
    split
    · exact h2 (by assumption)
    · omega
theorem zmove_ne {g : zH} {j : Nat} (h4 : j ≠ 4) (h5 : j ≠ 5) : zmove g j = g j := by
  unfold zmove
  split
  · rfl
  · rw [zup_ne h4, zup_ne h5]
section HP
variable {X d : Nat} {mem : zMem} {lk : zLk} {L : List Nat} {Q : Option Value → zMem → Prop} {h : Nat} {g : zH}
theorem nm1 {n : Nat} (h : 1 ≤ n) : nI n + -(nI 1) = nI (n - 1) := by
  have := pk_m1 (n - 1)
  rw [show n - 1 + 1 = n by omega] at this
  exact this
/-- the end of goOn: the way is known, the car goes -/
theorem goOn_end {v1 v2 v3 : Value} (hh : zHo lk h) (hb : zHB mem h g) (w5 : g 5 ≤ 1) (h0 : g 5 = 0 → 1 ≤ g 4) (h4 : g 4 < 1000) (q : ∀ mem', zHB mem' h (va_up g 4 (if g 5 = 1 then g 4 + 1 else g 4 - 1)) → zfr mem mem' h → Q (some (.int (nI 1))) mem') : zE X d 59 62 [.ref h, v1, v2, v3] [] mem lk L lk L Q := by
  have e4 : mem (h + 4) = nI (g 4) := hb.k 4 (by omega)
  have e5 : mem (h + 5) = nI (g 5) := hb.k 5 (by omega)
  refine zE_do 40 62 (tbl := tX3_goOn) zck_59 rfl (h := ?_)
  refine ⟨hh.k3, hh.k3, fun c => ⟨hh.k3, rfl, rfl, rfl, ?_⟩, fun c => ⟨hh.k3, rfl, rfl, rfl, ?_⟩⟩
  · have c : ¬ mem (h + 5) = nI 1 := c
    rw [e5, nEq (by omega) (by omega)] at c
    show Q (some (.int (nI 1))) (upd mem (h + 4) (mem (h + 4) + -(nI 1)))
    refine q _ ?_ (zfr.up (by omega) (by omega))
    rw [e4, if_neg c, nm1 (h0 (by omega))]
    exact hb.set 4 _ (by omega) rfl
  · have c : mem (h + 5) = nI 1 := c
    rw [e5, nEq (by omega) (by omega)] at c
    show Q (some (.int (nI 1))) (upd mem (h + 4) (mem (h + 4) + nI 1))
    refine q _ ?_ (zfr.up (by omega) (by omega))
    rw [e4, if_pos c, nI_add]
    exact hb.set 4 _ (by omega) rfl
theorem ok_goOn (hd : 1 < d) (hh : zHo lk h) (hb : zHB mem h g) (wf : zWF g) (q1 : zcalled g ≠ 0 → ∀ mem', zHB mem' h (zmove g) → zfr mem mem' h → Q (some (.int (nI 1))) mem') (q0 : zcalled g = 0 → Q (some (.int (nI 0))) mem) : zOk X d 59 [.ref h] mem lk L lk L Q := by
  have w0 := wf.1
  have w1 := wf.2.2.1
  have w4 := wf.2.2.2.2.2.1
  have w5 := wf.2.2.2.2.2.2.1
  have hlt := zcalled_lt wf
  have e4 : mem (h + 4) = nI (g 4) := hb.k 4 (by omega)
  have e5 : mem (h + 5) = nI (g 5) := hb.k 5 (by omega)
  refine zOk_doc [62] 40 (tbl := tX3_goOn) zck_59 rfl (by omega) (h := ?_)
  refine ⟨by rw [hh.k3]; rfl, ok_called (by omega) hh hb wf ⟨fun c => ?_, fun c => ⟨rfl, rfl, rfl, ?_⟩⟩⟩
  · rw [n0 (by omega)] at c
    obtain ⟨k1, k2, k3⟩ := zway_ok wf c
    have hmv : zmove g = va_up (va_up g 5 (zway g)) 4 (if zway g = 1 then g 4 + 1 else g 4 - 1) := by unfold zmove; rw [if_neg c]
    have q1 := q1 c
    rw [hmv] at q1
    have key : ∀ m1, zHB m1 h (va_up g 5 (zway g)) → zfr mem m1 h → ∀ v1 v2 v3, zE X d 59 62 [.ref h, v1, v2, v3] [] m1 lk L lk L Q := fun m1 hb1 hf1 v1 v2 v3 =>
      goOn_end (g := va_up g 5 (zway g)) hh hb1 (by rw [zup_eq]; exact k1) (fun z => by rw [zup_eq] at z; rw [zup_ne (by omega)]; exact k3 z) (by rw [zup_ne (by omega)]; omega) (fun m2 hb2 hf2 => q1 m2 (by rw [zup_eq, zup_ne (by omega)] at hb2; exact hb2) (hf1.tr hf2))
    refine ⟨hh.k3, hh.k3, hh.k3, fun c2 => ⟨fun c3 => ?_, fun c3 => ⟨hh.k3, fun c4 => ⟨hh.k3, ?_⟩, fun c4 => ?_⟩⟩, fun c2 => ⟨fun c3 => ?_, fun c3 => ⟨hh.k3, fun c4 => ?_, fun c4 => ⟨hh.k3, ?_⟩⟩⟩⟩
    · have c2 : ¬ mem (h + 5) = nI 1 := c2
      rw [e5, nEq (by omega) (by omega)] at c2
      have c3 : ¬ nI (zcalled g) &&& (nI 1 <<< (mem (h + 4) &&& 31) - nI 1) = 0 := c3
      have hm := Nat.mod_le (zcalled g) (2 ^ g 4)
      rw [e4, zblw_t _ (by omega) _ hlt, n0 (by omega)] at c3
      refine key mem ?_ zfr.rf _ _ _
      rw [zup_self (show g 5 = zway g by unfold zway; rw [if_neg c2, if_neg c3]; omega)]
      exact hb
    · have c2 : ¬ mem (h + 5) = nI 1 := c2
      rw [e5, nEq (by omega) (by omega)] at c2
      have c3 : nI (zcalled g) &&& (nI 1 <<< (mem (h + 4) &&& 31) - nI 1) = 0 := c3
      have hm := Nat.mod_le (zcalled g) (2 ^ g 4)
      rw [e4, zblw_t _ (by omega) _ hlt, n0 (by omega)] at c3
      refine key _ ?_ (zfr.up (x := h + 5) (v := nI 1) (by omega) (by omega)) _ _ _
      rw [show zway g = 1 by unfold zway; rw [if_neg c2, if_pos c3]]
      exact hb.set 5 1 (by omega) rfl
    · exact absurd c4 c2
    · have c2 : mem (h + 5) = nI 1 := c2
      rw [e5, nEq (by omega) (by omega)] at c2
      have c3 : ¬ nI (zcalled g) >>> (mem (h + 4) &&& 31) = 0 := c3
      have hm := Nat.div_le_self (zcalled g) (2 ^ g 4)
      rw [e4, zabv_t _ (by omega) _ hlt, n0 (by omega)] at c3
      refine key mem ?_ zfr.rf _ _ _
      rw [zup_self (show g 5 = zway g by unfold zway; rw [if_pos c2, if_neg c3]; omega)]
      exact hb
    · exact absurd c2 c4
    · have c2 : mem (h + 5) = nI 1 := c2
      rw [e5, nEq (by omega) (by omega)] at c2
      have c3 : nI (zcalled g) >>> (mem (h + 4) &&& 31) = 0 := c3
      have hm := Nat.div_le_self (zcalled g) (2 ^ g 4)
      rw [e4, zabv_t _ (by omega) _ hlt, n0 (by omega)] at c3
      refine key _ ?_ (zfr.up (x := h + 5) (v := nI 0) (by omega) (by omega)) _ _ _
      rw [show zway g = 0 by unfold zway; rw [if_pos c2, if_pos c3]]
      exact hb.set 5 0 (by omega) rfl
  · rw [n0 (by omega)] at c
    exact q0 c
theorem pass_loop {went : Prop} [Decidable went] {v : Nat} {o : Nat} {v2 : Value} (hv : v = if went then 1 else 0) (hd : 2 < d) (hh : zHo lk h) {g0 : zH} (wf : zWF g0) (h6 : g0 6 ≤ 1000000) (q : ∀ mem', zHB mem' h (va_up (zages went g0 (g0 0)) 6 (g0 6 + 1)) → zfr mem mem' h → Q none mem') : ∀ n i m1, i + n = g0 0 → zHB m1 h (zages went g0 i) → zfr mem m1 h → zE X d 55 23 [.ref h, .ref o, v2, .int (nI v), .int (nI i)] [] m1 lk L lk L Q := by
  have w0 := wf.1
  intro n
  induction n with
  | zero =>
    intro i m1 hi hb hf
    have n00 : zages went g0 i 0 = g0 0 := zages_0 (by omega) i
    have n6 : zages went g0 i 6 = g0 6 := zages_0 (by omega) i
    refine zE_do 40 23 (tbl := tX3_pass) zck_55 rfl (h := ?_)
    refine ⟨hh.k3, fun c => ⟨hh.k3, hh.k3, rfl, rfl, ?_⟩, fun c => ?_⟩
    · show Q none (upd m1 (h + 6) (m1 (h + 6) + nI 1))
      rw [hb.k 6 (by omega), n6, nI_add]
      refine q _ ?_ (hf.tr (zfr.up (by omega) (by omega)))
      rw [show i = g0 0 by omega] at hb
      exact hb.set 6 _ (by omega) rfl
    · exfalso
      have c : ¬ m1 (h + 0) ≤ nI i := c
      rw [hb.k 0 (by omega), n00, nLe (by omega) (by omega)] at c
      omega
  | succ n ih =>
    intro i m1 hi hb hf
    have n00 : zages went g0 i 0 = g0 0 := zages_0 (by omega) i
    have wi := zages_wf (went := went) wf i (by omega)
    have k := ih (i + 1)
    have hnext : zages went g0 (i + 1) = if zages went g0 i (13 + i) = 11 then zages went g0 i else zage (zages went g0 i) i (went ∧ zages went g0 i (13 + i) = 10) := rfl
    rw [hnext, ← nI_1] at k
    generalize zages went g0 i = gi at hb n00 wi k
    have hie : i < gi 0 := by omega
    have w11 := wi.at11 i hie
    have e1 : m1 (h + (7 + 6 * 1) + (nI i).toNatClampNeg) = nI (gi (13 + i)) := by rw [nC (by omega)]; exact hb.at hie
    have hvv : v ≤ 1 := by rw [hv]; split <;> omega
    refine zE_do 40 23 (tbl := tX3_pass) zck_55 rfl (h := ?_)
    refine ⟨hh.k3, fun c => ?_, fun c => ⟨hh.k3, _, hh.lk 1 (by omega), Or.inl (hh.ka 1 (by omega)), hh.inn (by omega), fun c2 => ?_, fun c2 => ⟨fun c3 => ⟨by rw [hh.k3]; rfl, ?_⟩, fun c3 => ⟨hh.k3, _, hh.lk 1 (by omega), Or.inl (hh.ka 1 (by omega)), hh.inn (by omega), fun c4 => ⟨by rw [hh.k3]; rfl, ?_⟩, fun c4 => ⟨by rw [hh.k3]; rfl, ?_⟩⟩⟩⟩⟩
    · exfalso
      have c : m1 (h + 0) ≤ nI i := c
      rw [hb.k 0 (by omega), n00, nLe (by omega) (by omega)] at c
      omega
    · have c2 : m1 (h + (7 + 6 * 1) + (nI i).toNatClampNeg) = nI 11 := c2
      rw [e1, nEq (by omega) (by omega)] at c2
      exact k m1 (by omega) (by rw [if_pos c2]; exact hb) hf
    · have c2 : ¬ m1 (h + (7 + 6 * 1) + (nI i).toNatClampNeg) = nI 11 := c2
      rw [e1, nEq (by omega) (by omega)] at c2
      have c3 : nI v = 0 := c3
      rw [n0 (by omega), hv] at c3
      have hw : ¬ went := fun z => by rw [if_pos z] at c3; omega
      exact ok_age (sh := went ∧ gi (13 + i) = 10) (v := 0) (by rw [if_neg (fun z => hw z.1)]) (by omega) hh hb wi hie (fun m2 hb2 hf2 => k m2 (by omega) (by rw [if_neg c2]; exact hb2) (hf.tr hf2))
    · have c2 : ¬ m1 (h + (7 + 6 * 1) + (nI i).toNatClampNeg) = nI 11 := c2
      have c4 : ¬ m1 (h + (7 + 6 * 1) + (nI i).toNatClampNeg) = nI 10 := c4
      rw [e1, nEq (by omega) (by omega)] at c2 c4
      exact ok_age (sh := went ∧ gi (13 + i) = 10) (v := 0) (by rw [if_neg (fun z => c4 z.2)]) (by omega) hh hb wi hie (fun m2 hb2 hf2 => k m2 (by omega) (by rw [if_neg c2]; exact hb2) (hf.tr hf2))
    · have c2 : ¬ m1 (h + (7 + 6 * 1) + (nI i).toNatClampNeg) = nI 11 := c2
      have c4 : m1 (h + (7 + 6 * 1) + (nI i).toNatClampNeg) = nI 10 := c4
      rw [e1, nEq (by omega) (by omega)] at c2 c4
      have c3 : ¬ nI v = 0 := c3
      rw [n0 (by omega), hv] at c3
      have hw : went := Decidable.byContradiction fun z => by rw [if_neg z] at c3; omega
      exact ok_age (sh := went ∧ gi (13 + i) = 10) (v := 1) (by rw [if_pos ⟨hw, c4⟩]) (by omega) hh hb wi hie (fun m2 hb2 hf2 => k m2 (by omega) (by rw [if_neg c2]; exact hb2) (hf.tr hf2))
/-- a minute -/
theorem ok_pass {o : Nat} {ord : Nat → Nat} (hd : 2 < d) (hh : zHo lk h) (hb : zHB mem h g) (wf : zWF g) (h6 : g 6 ≤ 1000000) (ho : zOrd X mem o ord h) (q : ∀ mem', zHB mem' h (zpass ord g) → zfr mem mem' h → Q none mem') : zOk X d 55 [.ref h, .ref o, .int (nI 0)] mem lk L lk L Q := by
  have w0 := wf.1
  have wl := zlets_wf wf (g 0) w0
  have l0 : zlets g (g 0) 0 = g 0 := zlets_ne (by omega) _ w0
  have l6 : zlets g (g 0) 6 = g 6 := zlets_ne (by omega) _ w0
  have wt := ztakes_wf (ord := ord) wl (g 0)
  have t0 : ztakes ord (zlets g (g 0)) (g 0) 0 = g 0 := by rw [ztakes_ne (by omega) (by omega)]; exact l0
  have t6 : ztakes ord (zlets g (g 0)) (g 0) 6 = g 6 := by rw [ztakes_ne (by omega) (by omega)]; exact l6
  unfold zpass at q
  dsimp only at q
  have wm := zmove_wf wt
  have m0 : zmove (ztakes ord (zlets g (g 0)) (g 0)) 0 = g 0 := by rw [zmove_ne (by omega) (by omega)]; exact t0
  have m6 : zmove (ztakes ord (zlets g (g 0)) (g 0)) 6 = g 6 := by rw [zmove_ne (by omega) (by omega)]; exact t6
  rw [zages_0 (by omega), m6] at q
  refine zOk_do 40 (tbl := tX3_pass) zck_55 rfl (by omega) (h := ?_)
  refine ⟨fun c => absurd rfl c, fun _ => ⟨by rw [hh.k3]; rfl, ok_letOut (by omega) hh hb wf (fun m1 hb1 hf1 => ⟨by rw [hh.k3]; rfl, ok_takeIn (by omega) hh hb1 wl (ho.fr hf1) (fun m2 hb2 hf2 => ⟨by rw [hh.k3]; rfl, ?_⟩)⟩)⟩⟩
  rw [l0] at hb2
  refine ok_goOn (by omega) hh hb2 wt (fun hz m3 hb3 hf3 => ?_) (fun hz => ?_)
  · have k := pass_loop (X := X) (d := d) (mem := mem) (lk := lk) (L := L) (Q := Q) (h := h) (went := zcalled (ztakes ord (zlets g (g 0)) (g 0)) ≠ 0) (v := 1) (o := o) (v2 := .int (nI 0)) (by rw [if_pos hz]) hd hh wm (by omega) (by rw [m0, m6]; exact q) (g 0) 0 m3 (by omega) hb3 ((hf1.tr hf2).tr hf3)
    exact k
  · have hmv : zmove (ztakes ord (zlets g (g 0)) (g 0)) = ztakes ord (zlets g (g 0)) (g 0) := by unfold zmove; rw [if_pos hz]
    have k := pass_loop (X := X) (d := d) (mem := mem) (lk := lk) (L := L) (Q := Q) (h := h) (went := zcalled (ztakes ord (zlets g (g 0)) (g 0)) ≠ 0) (v := 0) (o := o) (v2 := .int (nI 0)) (by rw [if_neg (fun z => z hz)]) hd hh wm (by omega) (by rw [m0, m6]; exact q) (g 0) 0 m2 (by omega) (by rw [hmv]; exact hb2) (hf1.tr hf2)
    exact k
/-- a minute in which the rope sticks -/
theorem ok_passStuck {o : Nat} (hd : 2 < d) (hh : zHo lk h) (hb : zHB mem h g) (wf : zWF g) (h6 : g 6 ≤ 1000000) (q : ∀ mem', zHB mem' h (zstuck g) → zfr mem mem' h → Q none mem') : zOk X d 55 [.ref h, .ref o, .int (nI 1)] mem lk L lk L Q := by
  refine zOk_do 40 (tbl := tX3_pass) zck_55 rfl (by omega) (h := ?_)
  refine ⟨fun _ => ?_, fun c => absurd c (by decide)⟩
  exact pass_loop (went := False) (v := 0) (by rw [if_neg (fun z => z)]) hd hh wf h6 q (g 0) 0 mem (by omega) hb zfr.rf
end HP
