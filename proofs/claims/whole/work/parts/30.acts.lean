/-! DishLift$Acts -/
theorem zOk_goc {X d y : Nat} {as : List Value} {mem : zMem} {lk : zLk} {L : List Nat} {lkf : zLk} {Lf : List Nat} {Q : Option Value → zMem → Prop} {tbl : List zR} (cs : List Nat) (n : Nat) (hck : zchk y = true) (ht : zmT y = tbl) (hd : 0 < d) (hlen : L.length ≤ Lf.length) (hm : zmlB y = true := by rfl) (hsz : (zargs as).length ≤ zmL y := by exact Nat.le_of_ble_eq_true rfl) {r : zR} {nxt : List zR} (hf : zfrom tbl 0 = r :: nxt := by rfl)
    (h : zst X d lkf Lf Q tbl (zwpc X d y lkf Lf Q tbl cs n) (fun a ls st mem' lk' L' => zE X d y a ls st mem' lk' L' lkf Lf Q) r nxt (zpad (zmL y) (zargs as)) [] mem lk L) : zOk X d y as mem lk L lkf Lf Q :=
  zOk_of (zmkB_ok (zmk_in hm)).1 (zmkB_ok (zmk_in hm)).2.1 hd hlen hsz (zgoc cs n 0 hck ht (h := h) (hf := hf))
/-- the house of a slot -/
def zAH (s : Nat) : Nat := 10000 + 64 * (5 + s)
/-- what may be undone: u houses, the latest first -/
def zActs (mem : zMem) (lk : zLk) (L : List Nat) (nx u : Nat) (gs : Nat → zH) : Prop :=
  nx < 24 ∧ u ≤ 24 ∧ mem 661 = nI nx ∧ mem 662 = nI u ∧ lk 660 = some 670 ∧
  (∀ s, s < 24 → lk (670 + s) = none ∨ (lk (670 + s) = some (zAH s) ∧ zHo lk (zAH s))) ∧
  (∀ s, s < 24 → lk (670 + s) = none → ∀ j, j < 64 → zAH s + j ∉ L) ∧
  (∀ k, k < u → lk (670 + (nx + 23 - k) % 24) = some (zAH ((nx + 23 - k) % 24)) ∧ zHB mem (zAH ((nx + 23 - k) % 24)) (gs k) ∧ zWF (gs k))
/-- one more -/
def zpsh (g : zH) (gs : Nat → zH) (k : Nat) : zH := if k = 0 then g else gs (k - 1)
theorem zpsh_0 {g : zH} {gs : Nat → zH} : zpsh g gs 0 = g := rfl
theorem zpsh_s {g : zH} {gs : Nat → zH} {k : Nat} (h : ¬ k = 0) : zpsh g gs k = gs (k - 1) := if_neg h
def kpK (nx : Nat) (lk : zLk) : zLk := match lk (670 + nx) with
  | none => va_up (zhK (zAH nx) (zclk (zAH nx) lk)) (670 + nx) (some (zAH nx))
  | some _ => lk
def kpL (nx : Nat) (lk : zLk) (L : List Nat) : List Nat := match lk (670 + nx) with
  | none => zhL (zAH nx) (L ++ [zAH nx])
  | some _ => L
theorem kpL_le (nx : Nat) (lk : zLk) (L : List Nat) : L.length ≤ (kpL nx lk L).length := by
  unfold kpL
  split
  · unfold zhL; simp only [List.length_append, List.length_cons, List.length_nil]; omega
  · exact Nat.le_refl _
theorem kpK_ne {nx x : Nat} {lk : zLk} (h1 : x ≠ 670 + nx) (h2 : ¬ (zAH nx ≤ x ∧ x < zAH nx + 64)) : kpK nx lk x = lk x := by
  unfold kpK
  cases e : lk (670 + nx) with
  | none =>
    show va_up (zhK (zAH nx) (zclk (zAH nx) lk)) (670 + nx) (some (zAH nx)) x = lk x
    rw [zup_ne h1]
    exact (zhK_lb (5 + nx) _ x h2).trans (zlb.clr (i := 5 + nx) (o := zAH nx) (Nat.le_refl _) (by unfold zAH; omega) x h2)
  | some v => rfl
theorem kpK_at {nx : Nat} {lk : zLk} (h : lk (670 + nx) = none ∨ lk (670 + nx) = some (zAH nx)) : kpK nx lk (670 + nx) = some (zAH nx) := by
  unfold kpK
  rcases h with e | e
  · rw [e]; exact zup_eq
  · rw [e]; exact e
theorem zHo.lb {lk lk' : zLk} {h b : Nat} (hh : zHo lk h) (hl : ∀ x, h ≤ x → x < h + 64 → lk' x = lk x) : zHo lk' h :=
  ⟨hh.1, fun j hj => by rw [hl _ (by omega) (by omega)]; exact hh.2 j hj⟩
theorem kpK_ho {nx : Nat} {lk : zLk} (h : lk (670 + nx) = none ∨ (lk (670 + nx) = some (zAH nx) ∧ zHo lk (zAH nx))) (hn : nx < 24) : zHo (kpK nx lk) (zAH nx) := by
  unfold kpK
  rcases h with e | ⟨e, e2⟩
  · rw [e]
    exact zHo.lb (b := 0) (zhK_ho (5 + nx) _) (fun x h1 h2 => zup_ne (by unfold zAH at h1; omega))
  · rw [e]; exact e2
theorem kpL_in {nx : Nat} {lk : zLk} {L : List Nat} {x : Nat} (h : x ∈ kpL nx lk L) : x ∈ L ∨ (zAH nx ≤ x ∧ x < zAH nx + 64) := by
  unfold kpL at h
  split at h
  · unfold zhL at h
    simp only [List.mem_append, List.mem_singleton] at h
    rcases h with ((((((h | h) | h) | h) | h) | h)) | h
    · exact Or.inl h
    all_goals exact Or.inr (by omega)
  · exact Or.inl h
section AC
variable {X d : Nat} {mem : zMem} {lk : zLk} {L : List Nat} {Q : Option Value → zMem → Prop} {h : Nat} {g : zH} {nx u : Nat} {gs : Nat → zH}
theorem in24 {s : Nat} (h : s < 24) : vp_in (nI s) (ln X 670) := vp_in_nI h (by show 24 < 2 ^ 31; decide)
theorem ok_isEmpty (hd : 0 < d) (A : zActs mem lk L nx u gs) (q1 : u = 0 → Q (some (.int (nI 1))) mem) (q0 : u ≠ 0 → Q (some (.int (nI 0))) mem) : zOk X d 1 [.ref 660] mem lk L lk L Q := by
  obtain ⟨a1, a2, a3, a4, -⟩ := A
  refine zOk_do 20 (tbl := tX0_isEmpty) zck_1 rfl hd (h := ?_)
  refine ⟨rfl, fun c => ⟨rfl, rfl, rfl, q0 ?_⟩, fun c => ⟨rfl, rfl, rfl, q1 ?_⟩⟩
  · have c : ¬ mem 662 = 0 := c
    rw [a4, n0 (by omega)] at c; exact c
  · have c : mem 662 = 0 := c
    rw [a4, n0 (by omega)] at c; exact c
theorem ok_forget (hd : 0 < d) (q : Q none (upd mem 662 (nI 0))) : zOk X d 2 [.ref 660] mem lk L lk L Q := by
  refine zOk_do 20 (tbl := tX0_forget) zck_2 rfl hd (h := ?_)
  exact ⟨rfl, rfl, rfl, q⟩
/-- what keep leaves as it is -/
def zkfr (mem mem' : zMem) : Prop := ∀ x, ¬ (661 ≤ x ∧ x ≤ 662) → ¬ (10320 ≤ x ∧ x < 11856) → mem' x = mem x
theorem zkfr.tr {m1 m2 m3 : zMem} (h : zkfr m1 m2) (h' : zkfr m2 m3) : zkfr m1 m3 := fun x h1 h2 => (h' x h1 h2).trans (h x h1 h2)
theorem nrem {a b : Nat} (ha : a < 2147483648) (hb : 0 < b) (hb2 : b < 2147483648) : nI a - nI a / nI b * nI b = nI (a % b) := pk_rem ha hb hb2
theorem keep_tail {lk0 : zLk} {L0 : List Nat} (hd : 1 < d) (hh : zHo lk 10000) (hb : zHB mem 10000 g) (wf : zWF g) (A : zActs mem lk0 L0 nx u gs) (hk : lk = kpK nx lk0) (hL : L = kpL nx lk0 L0)
    (q : ∀ mem', zActs mem' (kpK nx lk0) (kpL nx lk0 L0) ((nx + 1) % 24) (if u < 24 then u + 1 else 24) (zpsh g gs) → zkfr mem mem' → Q none mem') : zE X d 3 28 [.ref 660, .ref 10000] [] mem lk L (kpK nx lk0) (kpL nx lk0 L0) Q := by
  obtain ⟨a1, a2, a3, a4, a5, a6, a7, a8⟩ := A
  have hat : lk (670 + nx) = some (zAH nx) := by rw [hk]; exact kpK_at ((a6 nx a1).imp id And.left)
  have hho : zHo lk (zAH nx) := by rw [hk]; exact kpK_ho (a6 nx a1) a1
  have h660 : lk 660 = some 670 := by rw [hk, kpK_ne (by omega) (by unfold zAH; omega)]; exact a5
  have ei : mem (660 + 1) = nI nx := a3
  have hat' : lk (670 + (mem (660 + 1)).toNatClampNeg) = some (zAH nx) := by rw [ei, nC (by omega)]; exact hat
  have hne : lk (670 + (mem (660 + 1)).toNatClampNeg) = none → False := fun q => by rw [hat'] at q; cases q
  have hin : vp_in (mem (660 + 1)) (ln X 670) := by rw [ei]; exact in24 a1
  refine zE_do 60 28 (tbl := tX0_keep) zck_3 rfl (h := ?_)
  refine ⟨rfl, 670, h660, rfl, Or.inl rfl, hin, fun z => absurd z hne, fun t ht => ?_⟩
  have ht : lk (670 + (mem (660 + 1)).toNatClampNeg) = some t := ht
  rw [hat'] at ht
  cases ht
  refine ⟨by rw [hho.k3]; rfl, ok_become (by omega) hho hh (by unfold zAH; omega) hb wf.1 (fun m1 hb1 hf1 => ⟨rfl, by decide, rfl, rfl, rfl, hk, hL, ?_⟩)⟩
  have e1 : m1 (660 + 1) = nI nx := by rw [hf1 _ (by unfold zAH; omega)]; exact a3
  have e2 : m1 (660 + 2) = nI u := by rw [hf1 _ (by unfold zAH; omega)]; exact a4
  have hp : (nx + 1) % 24 < 24 := by omega
  have hu : (if u < 24 then u + 1 else 24) ≤ 24 := by split <;> omega
  have eA : m1 (660 + 1) + nI 1 - (m1 (660 + 1) + nI 1) / nI 24 * nI 24 = nI ((nx + 1) % 24) := by
    rw [e1, nI_add]; exact nrem (by omega) (by omega) (by omega)
  have eB : (if upd m1 (660 + 1) (nI ((nx + 1) % 24)) (660 + 2) + nI 1 < nI 24 then upd m1 (660 + 1) (nI ((nx + 1) % 24)) (660 + 2) + nI 1 else nI 24) = nI (if u < 24 then u + 1 else 24) := by
    rw [upd_ne (by omega), e2, nI_add]
    by_cases c : u < 24
    · rw [if_pos c]
      by_cases c2 : u + 1 < 24
      · rw [if_pos (by rw [nLt (by omega) (by omega)]; omega)]
      · rw [if_neg (by rw [nLt (by omega) (by omega)]; omega), show u + 1 = 24 by omega]
    · rw [if_neg c, if_neg (by rw [nLt (by omega) (by omega)]; omega)]
  show Q none (upd (upd m1 (660 + 1) (m1 (660 + 1) + nI 1 - (m1 (660 + 1) + nI 1) / nI 24 * nI 24)) (660 + 2) (if upd m1 (660 + 1) (m1 (660 + 1) + nI 1 - (m1 (660 + 1) + nI 1) / nI 24 * nI 24) (660 + 2) + nI 1 < nI 24 then upd m1 (660 + 1) (m1 (660 + 1) + nI 1 - (m1 (660 + 1) + nI 1) / nI 24 * nI 24) (660 + 2) + nI 1 else nI 24))
  rw [eA, eB]
  have hout : ∀ x, x ≠ 661 → x ≠ 662 → upd (upd m1 (660 + 1) (nI ((nx + 1) % 24))) (660 + 2) (nI (if u < 24 then u + 1 else 24)) x = m1 x := fun x h1 h2 => by
    rw [upd_ne (by omega), upd_ne (by omega)]
  refine q _ ⟨hp, hu, ?_, upd_eq, by rw [← hk]; exact h660, fun s hs => ?_, fun s hs hz j hj => ?_, fun k hkk => ?_⟩ (fun x h1 h2 => ?_)
  · rw [upd_ne (by omega)]; exact upd_eq
  · by_cases c : s = nx
    · subst c; rw [← hk]; exact Or.inr ⟨hat, hho⟩
    · rw [kpK_ne (by omega) (by unfold zAH; omega)]
      refine (a6 s hs).imp id (fun z => ⟨z.1, z.2.lb (b := 0) (fun x h1 h2 => kpK_ne (by unfold zAH at h1; omega) (by unfold zAH at h1 h2 ⊢; omega))⟩)
  · by_cases c : s = nx
    · subst c; rw [← hk, hat] at hz; cases hz
    · rw [kpK_ne (by omega) (by unfold zAH; omega)] at hz
      intro hm
      rcases kpL_in hm with z | z
      · exact a7 s hs hz j hj z
      · unfold zAH at z; omega
  · by_cases c : k = 0
    · subst c
      have es : ((nx + 1) % 24 + 23 - 0) % 24 = nx := by omega
      rw [es, zpsh_0, ← hk]
      exact ⟨hat, hb1.same wf.1 (fun j hj => hout _ (by unfold zAH; omega) (by unfold zAH; omega)), wf⟩
    · have hk1 : k - 1 < u := by split at hkk <;> omega
      have hk2 : k ≤ 23 := by split at hkk <;> omega
      have es : ((nx + 1) % 24 + 23 - k) % 24 = (nx + 23 - (k - 1)) % 24 := by omega
      have en : (nx + 23 - (k - 1)) % 24 ≠ nx := by omega
      have el : (nx + 23 - (k - 1)) % 24 < 24 := by omega
      obtain ⟨b1, b2, b3⟩ := a8 (k - 1) hk1
      rw [es, zpsh_s c]
      generalize (nx + 23 - (k - 1)) % 24 = s at b1 b2 en el ⊢
      rw [kpK_ne (by omega) (by unfold zAH; omega)]
      refine ⟨b1, b2.same b3.1 (fun j hj => ?_), b3⟩
      rw [hout _ (by unfold zAH; omega) (by unfold zAH; omega)]
      exact hf1 _ (by unfold zAH; omega)
  · rw [hout _ (by omega) (by omega)]
    exact hf1 _ (by unfold zAH; omega)
theorem ok_keep (hd : 1 < d) (hh : zHo lk 10000) (hb : zHB mem 10000 g) (wf : zWF g) (A : zActs mem lk L nx u gs)
    (q : ∀ mem', zActs mem' (kpK nx lk) (kpL nx lk L) ((nx + 1) % 24) (if u < 24 then u + 1 else 24) (zpsh g gs) → zkfr mem mem' → Q none mem') : zOk X d 3 [.ref 660, .ref 10000] mem lk L (kpK nx lk) (kpL nx lk L) Q := by
  obtain ⟨a1, a2, a3, a4, a5, a6, a7, a8⟩ := A
  have ei : mem (660 + 1) = nI nx := a3
  have hin : vp_in (mem (660 + 1)) (ln X 670) := by rw [ei]; exact in24 a1
  have ea : lk (670 + (mem (660 + 1)).toNatClampNeg) = lk (670 + nx) := by rw [ei, nC (by omega)]
  refine zOk_goc [28] 60 (tbl := tX0_keep) zck_3 rfl (by omega) (kpL_le nx lk L) (h := ?_)
  refine ⟨rfl, 670, a5, rfl, Or.inl rfl, hin, fun z => ?_, fun t ht => ?_⟩
  · have z : lk (670 + (mem (660 + 1)).toNatClampNeg) = none := z
    rw [ea] at z
    have eK : kpK nx lk = va_up (zhK (zAH nx) (zclk (zAH nx) lk)) (670 + nx) (some (zAH nx)) := by unfold kpK; rw [z]
    have eL : kpL nx lk L = zhL (zAH nx) (L ++ [zAH nx]) := by unfold kpL; rw [z]
    have hl5 : (zhL (zAH nx) (L ++ [zAH nx])).length = L.length + 6 := by unfold zhL; simp only [List.length_append, List.length_cons, List.length_nil]
    have h0 := a7 nx a1 z
    have fm : zfb mem (zhM (zAH nx) (zclr (zAH nx) mem)) (zAH nx) := (zfb.clr (i := 5 + nx) (o := zAH nx) (Nat.le_refl _) (by unfold zAH; omega)).tr (zhM_fb (5 + nx) _)
    have e5 : zclk (zAH nx) lk 660 = some 670 := by rw [zlb.clr (i := 5 + nx) (o := zAH nx) (Nat.le_refl _) (by unfold zAH; omega) 660 (by omega)]; exact a5
    have eiz : zclr (zAH nx) mem (660 + 1) = mem (660 + 1) := zfb.clr (i := 5 + nx) (o := zAH nx) (Nat.le_refl _) (by unfold zAH; omega) _ (by omega)
    refine ⟨rfl, 670, a5, rfl, zAH nx, kd_house (5 + nx), h0 0 (by omega), by rw [eL, hl5]; omega, zhK (zAH nx) (zclk (zAH nx) lk), zhL (zAH nx) (L ++ [zAH nx]), by rw [eL]; exact Nat.le_refl _, by rw [hl5]; simp only [List.length_append, List.length_cons, List.length_nil]; omega, ok_newHouse (5 + nx) (by omega) (fun j hj hj0 => ?_) ?_⟩
    · simp only [List.mem_append, List.mem_singleton, not_or]
      exact ⟨h0 j hj, by unfold zAH; omega⟩
    · have hin2 : vp_in (mem (660 + 1)) (ln X 670) := hin
      refine ⟨rfl, kd_house (5 + nx), hin2, ?_⟩
      have e1 : va_up (zhK (zAH nx) (zclk (zAH nx) lk)) (670 + (mem (660 + 1)).toNatClampNeg) (some (zAH nx)) = kpK nx lk := by rw [eK, ei, nC (by omega)]
      have hfm : ∀ x, ¬ (zAH nx ≤ x ∧ x < zAH nx + 64) → zhM (zAH nx) (zclr (zAH nx) mem) x = mem x := fm
      have k := keep_tail (X := X) (d := d) (mem := zhM (zAH nx) (zclr (zAH nx) mem)) (lk := kpK nx lk) (L := kpL nx lk L) (Q := Q) (g := g) (nx := nx) (u := u) (gs := gs) (lk0 := lk) (L0 := L) hd (hh.lb (b := 0) (fun x h1 h2 => kpK_ne (by omega) (by unfold zAH; omega))) (hb.same wf.1 (fun j hj => hfm _ (by unfold zAH; omega))) wf
        ⟨a1, a2, by rw [hfm _ (by unfold zAH; omega)]; exact a3, by rw [hfm _ (by unfold zAH; omega)]; exact a4, a5, a6, a7, fun k hk => ?_⟩ rfl rfl (fun m1 A1 f1 => q m1 A1 ?_)
      · rw [← e1, eL] at k
        rw [← eL, e1] at k ⊢
        exact k
      · obtain ⟨b1, b2, b3⟩ := a8 k hk
        refine ⟨b1, b2.same b3.1 (fun j hj => hfm _ ?_), b3⟩
        have : (nx + 23 - k) % 24 ≠ nx := fun z' => by rw [z', z] at b1; cases b1
        have : (nx + 23 - k) % 24 < 24 := by omega
        unfold zAH; omega
      · exact zkfr.tr (fun x h1 h2 => hfm x (by unfold zAH; omega)) f1
  · have ht : lk (670 + (mem (660 + 1)).toNatClampNeg) = some t := ht
    rw [ea] at ht
    have eK : kpK nx lk = lk := by unfold kpK; rw [ht]
    have eL : kpL nx lk L = L := by unfold kpL; rw [ht]
    exact keep_tail (lk0 := lk) (L0 := L) hd hh hb wf ⟨a1, a2, a3, a4, a5, a6, a7, a8⟩ eK.symm eL.symm q
end AC
section AC2
variable {X d : Nat} {mem : zMem} {lk : zLk} {L : List Nat} {Q : Option Value → zMem → Prop} {g : zH} {nx u : Nat} {gs : Nat → zH}
/-- the latest is taken back -/
theorem ok_takeBack (hd : 1 < d) (hh : zHo lk 10000) (A : zActs mem lk L nx u gs) (hu : u ≠ 0)
    (q : ∀ mem', zActs mem' lk L ((nx + 23) % 24) (u - 1) (fun k => gs (k + 1)) → zHB mem' 10000 (gs 0) → (∀ x, ¬ (661 ≤ x ∧ x ≤ 662) → ¬ (10000 ≤ x ∧ x < 10037) → mem' x = mem x) → Q (some (.int (nI (u - 1)))) mem') : zOk X d 4 [.ref 660, .ref 10000] mem lk L lk L Q := by
  obtain ⟨a1, a2, a3, a4, a5, a6, a7, a8⟩ := A
  obtain ⟨b1, b2, b3⟩ := a8 0 (by omega)
  have es : (nx + 23 - 0) % 24 = (nx + 23) % 24 := rfl
  rw [es] at b1 b2
  have hl : (nx + 23) % 24 < 24 := by omega
  have ho : zHo lk (zAH ((nx + 23) % 24)) := (a6 _ hl).elim (fun z => by rw [z] at b1; cases b1) And.right
  have eA : mem (660 + 1) + nI 24 - nI 1 - (mem (660 + 1) + nI 24 - nI 1) / nI 24 * nI 24 = nI ((nx + 23) % 24) := by
    rw [show mem (660 + 1) = nI nx from a3, nI_add, nsub (by omega) (by omega), show nx + 24 - 1 = nx + 23 by omega]
    exact nrem (by omega) (by omega) (by omega)
  refine zOk_do 60 (tbl := tX0_takeBack) zck_4 rfl (by omega) (h := ?_)
  refine ⟨rfl, by decide, ?_⟩
  have hin : vp_in (mem (660 + 1) + nI 24 - nI 1 - (mem (660 + 1) + nI 24 - nI 1) / nI 24 * nI 24) (ln X 670) := by rw [eA]; exact in24 hl
  have hat : lk (670 + (mem (660 + 1) + nI 24 - nI 1 - (mem (660 + 1) + nI 24 - nI 1) / nI 24 * nI 24).toNatClampNeg) = some (zAH ((nx + 23) % 24)) := by rw [eA, nC (by omega)]; exact b1
  refine ⟨rfl, fun c => ?_, fun c => ⟨rfl, 670, a5, Or.inl rfl, hin, fun z => ?_, fun t ht => ?_⟩⟩
  · exfalso
    have c : mem (660 + 2) ≤ 0 := c
    rw [show mem (660 + 2) = nI u from a4, show (0 : Int32) = nI 0 from rfl, nLe (by omega) (by omega)] at c
    omega
  · exfalso
    have z : lk (670 + (mem (660 + 1) + nI 24 - nI 1 - (mem (660 + 1) + nI 24 - nI 1) / nI 24 * nI 24).toNatClampNeg) = none := z
    rw [hat] at z; cases z
  · have ht : lk (670 + (mem (660 + 1) + nI 24 - nI 1 - (mem (660 + 1) + nI 24 - nI 1) / nI 24 * nI 24).toNatClampNeg) = some t := ht
    refine ⟨rfl, 670, a5, Or.inl rfl, hin, fun z => ?_, fun t2 ht2 => ?_⟩
    · exfalso
      have z : lk (670 + (mem (660 + 1) + nI 24 - nI 1 - (mem (660 + 1) + nI 24 - nI 1) / nI 24 * nI 24).toNatClampNeg) = none := z
      rw [hat] at z; cases z
    · have ht2 : lk (670 + (mem (660 + 1) + nI 24 - nI 1 - (mem (660 + 1) + nI 24 - nI 1) / nI 24 * nI 24).toNatClampNeg) = some t2 := ht2
      rw [hat] at ht2
      cases ht2
      refine ⟨by rw [hh.k3]; rfl, ok_become (by omega) hh ho (by unfold zAH; omega) b2 b3.1 (fun m1 hb1 hf1 => ⟨rfl, rfl, rfl, rfl, rfl, rfl, ?_⟩)⟩
      have e1 : m1 (660 + 2) = nI u := by rw [hf1 _ (by omega)]; exact a4
      show Q (some (.int (upd (upd m1 (660 + 1) (mem (660 + 1) + nI 24 - nI 1 - (mem (660 + 1) + nI 24 - nI 1) / nI 24 * nI 24)) (660 + 2) (upd m1 (660 + 1) (mem (660 + 1) + nI 24 - nI 1 - (mem (660 + 1) + nI 24 - nI 1) / nI 24 * nI 24) (660 + 2) - nI 1) (660 + 2)))) (upd (upd m1 (660 + 1) (mem (660 + 1) + nI 24 - nI 1 - (mem (660 + 1) + nI 24 - nI 1) / nI 24 * nI 24)) (660 + 2) (upd m1 (660 + 1) (mem (660 + 1) + nI 24 - nI 1 - (mem (660 + 1) + nI 24 - nI 1) / nI 24 * nI 24) (660 + 2) - nI 1))
      rw [eA, upd_ne (show 660 + 2 ≠ 660 + 1 by omega), e1, nsub (by omega) (by omega), upd_eq]
      have hout : ∀ x, x ≠ 661 → x ≠ 662 → upd (upd m1 (660 + 1) (nI ((nx + 23) % 24))) (660 + 2) (nI (u - 1)) x = m1 x := fun x h1 h2 => by
        rw [upd_ne (by omega), upd_ne (by omega)]
      refine q _ ⟨hl, by omega, ?_, upd_eq, a5, a6, a7, fun k hk => ?_⟩ (hb1.same b3.1 (fun j hj => hout _ (by omega) (by omega))) (fun x h1 h2 => ?_)
      · rw [upd_ne (by omega)]; exact upd_eq
      · obtain ⟨c1, c2, c3⟩ := a8 (k + 1) (by omega)
        have es2 : ((nx + 23) % 24 + 23 - k) % 24 = (nx + 23 - (k + 1)) % 24 := by omega
        rw [es2]
        refine ⟨c1, c2.same c3.1 (fun j hj => ?_), c3⟩
        rw [hout _ (by unfold zAH; omega) (by unfold zAH; omega)]
        exact hf1 _ (by unfold zAH; omega)
      · rw [hout _ (by omega) (by omega)]
        exact hf1 _ (by omega)
end AC2
