/-! DishLift$House: become, isAs, build -/
def zcp (h o : Nat) : List Nat → zMem → zMem
  | [], m => m
  | k :: ks, m => zcp h o ks (upd m (h + k) (m (o + k)))
theorem zcp_out {h o : Nat} : ∀ (ks : List Nat) (m : zMem) (x : Nat), (∀ k, k ∈ ks → x ≠ h + k) → zcp h o ks m x = m x
  | [], m, x, _ => rfl
  | k :: ks, m, x, hx => by
    show zcp h o ks (upd m (h + k) (m (o + k))) x = m x
    rw [zcp_out ks _ x (fun j hj => hx j (List.mem_cons_of_mem _ hj)), upd_ne (hx k List.mem_cons_self)]
theorem zcp_in {h o : Nat} (ho : h + 37 ≤ o ∨ o + 37 ≤ h) : ∀ (ks : List Nat) (m : zMem), (∀ k, k ∈ ks → k < 37) → ∀ k, k ∈ ks → zcp h o ks m (h + k) = m (o + k)
  | [], m, _, k, hk => absurd hk List.not_mem_nil
  | a :: ks, m, hl, k, hk => by
    show zcp h o ks (upd m (h + a) (m (o + a))) (h + k) = m (o + k)
    have ha := hl a List.mem_cons_self
    have hk37 := hl k hk
    by_cases c : k ∈ ks
    · rw [zcp_in ho ks _ (fun j hj => hl j (List.mem_cons_of_mem _ hj)) k c, upd_ne (by omega)]
    · have e : k = a := (List.mem_cons.mp hk).elim id (fun q => absurd q c)
      subst e
      have hout : ∀ j, j ∈ ks → h + k ≠ h + j := fun j hj q => c ((show j = k by omega) ▸ hj)
      rw [zcp_out ks _ _ hout, upd_eq]
/-- the first dishes are copied, and of the next the first fields -/
def zcpP (mem m : zMem) (h o i j : Nat) : Prop := (∀ k, k < 7 → m (h + k) = mem (o + k)) ∧ (∀ f e, f < 5 → (e < i ∨ (e = i ∧ f < j)) → m (h + (7 + 6 * f + e)) = mem (o + (7 + 6 * f + e))) ∧ zfr mem m h
theorem zcpP.go {mem m : zMem} {h o i j : Nat} (p : zcpP mem m h o i j) (hj : j < 5) (hi : i < 6) (ho : h + 37 ≤ o ∨ o + 37 ≤ h) : zcpP mem (upd m (h + (7 + 6 * j) + (nI i).toNatClampNeg) (m (o + (7 + 6 * j) + (nI i).toNatClampNeg))) h o i (j + 1) := by
  rw [nC (by omega)]
  refine ⟨fun k hk => ?_, fun f e hf he => ?_, p.2.2.tr (zfr.up (by omega) (by omega))⟩
  · rw [upd_ne (by omega)]; exact p.1 k hk
  · by_cases c : h + (7 + 6 * f + e) = h + (7 + 6 * j) + i
    · rw [c, upd_eq, p.2.2 _ (by omega), show o + (7 + 6 * f + e) = o + (7 + 6 * j) + i by omega]
    · rw [upd_ne c]; exact p.2.1 f e hf (by omega)
theorem zcpP.nx {mem m : zMem} {h o i : Nat} (p : zcpP mem m h o i 5) : zcpP mem m h o (i + 1) 0 := ⟨p.1, fun f e hf he => p.2.1 f e hf (by omega), p.2.2⟩
theorem zcpP.fin {mem m : zMem} {h o i : Nat} {g : zH} (p : zcpP mem m h o i 0) (hb : zHB mem o g) (hi : i = g 0) : zHB m h g := by
  subst hi
  exact ⟨fun k hk => by rw [p.1 k hk]; exact hb.1 k hk, fun f e hf he => by rw [p.2.1 f e hf (Or.inl he)]; exact hb.2 f e hf he⟩
section HB
variable {X d : Nat} {mem : zMem} {lk : zLk} {L : List Nat} {Q : Option Value → zMem → Prop} {h o : Nat} {g : zH}
theorem become_loop (hh : zHo lk h) (ho : zHo lk o) (hd : h + 37 ≤ o ∨ o + 37 ≤ h) (hb : zHB mem o g) (wf : g 0 ≤ 6) (q : ∀ mem', zHB mem' h g → zfr mem mem' h → Q none mem') : ∀ n i m1, i + n = g 0 → zcpP mem m1 h o i 0 → zE X d 42 58 [.ref h, .ref o, .int (nI i)] [] m1 lk L lk L Q := by
  intro n
  induction n with
  | zero =>
    intro i m1 hi p
    have e0 : m1 (h + 0) = nI (g 0) := by rw [p.1 0 (by omega)]; exact hb.1 0 (by omega)
    refine zE_do 40 58 (tbl := tX3_become) zck_42 rfl (h := ?_)
    refine ⟨hh.k3, fun c => ⟨rfl, rfl, q m1 (p.fin hb (by omega)) p.2.2⟩, fun c => ?_⟩
    exfalso
    have c : ¬ m1 (h + 0) ≤ nI i := c
    rw [e0, nLe (by omega) (by omega)] at c
    omega
  | succ n ih =>
    intro i m1 hi p
    have e0 : m1 (h + 0) = nI (g 0) := by rw [p.1 0 (by omega)]; exact hb.1 0 (by omega)
    have k := fun m2 => ih (i + 1) m2 (by omega)
    rw [← nI_1] at k
    refine zE_do 80 58 (tbl := tX3_become) zck_42 rfl (h := ?_)
    refine ⟨hh.k3, fun c => ?_, fun c => ?_⟩
    · exfalso
      have c : m1 (h + 0) ≤ nI i := c
      rw [e0, nLe (by omega) (by omega)] at c
      omega
    · refine ⟨hh.k3, _, hh.lk 0 (by omega), ho.k3, _, ho.lk 0 (by omega), Or.inl (ho.ka 0 (by omega)), ho.inn (by omega), hh.ka 0 (by omega), hh.inn (by omega), ?_⟩
      refine ⟨hh.k3, _, hh.lk 1 (by omega), ho.k3, _, ho.lk 1 (by omega), Or.inl (ho.ka 1 (by omega)), ho.inn (by omega), hh.ka 1 (by omega), hh.inn (by omega), ?_⟩
      refine ⟨hh.k3, _, hh.lk 2 (by omega), ho.k3, _, ho.lk 2 (by omega), Or.inl (ho.ka 2 (by omega)), ho.inn (by omega), hh.ka 2 (by omega), hh.inn (by omega), ?_⟩
      refine ⟨hh.k3, _, hh.lk 3 (by omega), ho.k3, _, ho.lk 3 (by omega), Or.inl (ho.ka 3 (by omega)), ho.inn (by omega), hh.ka 3 (by omega), hh.inn (by omega), ?_⟩
      refine ⟨hh.k3, _, hh.lk 4 (by omega), ho.k3, _, ho.lk 4 (by omega), Or.inl (ho.ka 4 (by omega)), ho.inn (by omega), hh.ka 4 (by omega), hh.inn (by omega), ?_⟩
      exact k _ (((((p.go (j := 0) (by omega) (by omega) hd).go (j := 1) (by omega) (by omega) hd).go (j := 2) (by omega) (by omega) hd).go (j := 3) (by omega) (by omega) hd).go (j := 4) (by omega) (by omega) hd).nx
theorem ok_become (hdd : 0 < d) (hh : zHo lk h) (ho : zHo lk o) (hd : h + 37 ≤ o ∨ o + 37 ≤ h) (hb : zHB mem o g) (wf : g 0 ≤ 6) (q : ∀ mem', zHB mem' h g → zfr mem mem' h → Q none mem') : zOk X d 42 [.ref h, .ref o] mem lk L lk L Q := by
  refine zOk_do 60 (tbl := tX3_become) zck_42 rfl hdd (h := ?_)
  refine ⟨ho.k3, hh.k3, ho.k3, hh.k3, ho.k3, hh.k3, ho.k3, hh.k3, ho.k3, hh.k3, ho.k3, hh.k3, ho.k3, hh.k3, ?_⟩
  have hm : ∀ k, k < 7 → k ∈ [1, 2, 3, 6, 4, 5, 0] := fun k hk => by
    rcases (by omega : k = 0 ∨ k = 1 ∨ k = 2 ∨ k = 3 ∨ k = 4 ∨ k = 5 ∨ k = 6) with z | z | z | z | z | z | z <;> subst z <;> decide
  have hl : ∀ k, k ∈ [1, 2, 3, 6, 4, 5, 0] → k < 37 := by decide
  exact become_loop hh ho hd hb wf q (g 0) 0 (zcp h o [1, 2, 3, 6, 4, 5, 0] mem) (by omega) ⟨fun k hk => zcp_in hd _ _ hl k (hm k hk), fun f e hf he => by omega, fun x hx => zcp_out _ _ _ (fun k hk => by have := hl k hk; omega)⟩
/-- two houses are as one -/
def zsame (g g' : zH) : Prop := (∀ k, k < 7 → g k = g' k) ∧ ∀ f e, f < 5 → e < g 0 → g (7 + 6 * f + e) = g' (7 + 6 * f + e)
theorem isAs_loop {g' : zH} (hh : zHo lk h) (ho : zHo lk o) (hb : zHB mem h g) (hb' : zHB mem o g') (wf : g 0 ≤ 6) (h0 : g 0 = g' 0) (hl : ∀ f e, f < 5 → e < g 0 → g (7 + 6 * f + e) < 1000) (hl' : ∀ f e, f < 5 → e < g' 0 → g' (7 + 6 * f + e) < 1000) (q1 : (∀ f e, f < 5 → e < g 0 → g (7 + 6 * f + e) = g' (7 + 6 * f + e)) → Q (some (.int (nI 1))) mem) (q0 : ¬ (∀ f e, f < 5 → e < g 0 → g (7 + 6 * f + e) = g' (7 + 6 * f + e)) → Q (some (.int (nI 0))) mem) : ∀ n i, i + n = g 0 → (∀ f e, f < 5 → e < i → g (7 + 6 * f + e) = g' (7 + 6 * f + e)) → zE X d 43 81 [.ref h, .ref o, .int (nI i)] [] mem lk L lk L Q := by
  have e0 : mem (h + 0) = nI (g 0) := hb.1 0 (by omega)
  intro n
  induction n with
  | zero =>
    intro i hi p
    refine zE_do 40 81 (tbl := tX3_isAs) zck_43 rfl (h := ?_)
    refine ⟨hh.k3, fun c => ⟨rfl, rfl, rfl, q1 (fun f e hf he => p f e hf (by omega))⟩, fun c => ?_⟩
    exfalso
    have c : ¬ mem (h + 0) ≤ nI i := c
    rw [e0, nLe (by omega) (by omega)] at c
    omega
  | succ n ih =>
    intro i hi p
    have k := ih (i + 1) (by omega)
    rw [← nI_1] at k
    have ea : ∀ j, j < 5 → mem (h + (7 + 6 * j) + (nI i).toNatClampNeg) = nI (g (7 + 6 * j + i)) := fun j hj => by
      rw [nC (by omega), Nat.add_assoc]; exact hb.2 j i hj (by omega)
    have eb : ∀ j, j < 5 → mem (o + (7 + 6 * j) + (nI i).toNatClampNeg) = nI (g' (7 + 6 * j + i)) := fun j hj => by
      rw [nC (by omega), Nat.add_assoc]; exact hb'.2 j i hj (by omega)
    have ec : ∀ j, j < 5 → (mem (h + (7 + 6 * j) + (nI i).toNatClampNeg) = mem (o + (7 + 6 * j) + (nI i).toNatClampNeg) ↔ g (7 + 6 * j + i) = g' (7 + 6 * j + i)) := fun j hj => by
      have := hl j i hj (by omega)
      have := hl' j i hj (by omega)
      rw [ea j hj, eb j hj, nEq (by omega) (by omega)]
    have no : ∀ j, j < 5 → ¬ g (7 + 6 * j + i) = g' (7 + 6 * j + i) → Q (some (.int (nI 0))) mem := fun j hj hz => q0 (fun z => hz (z j i hj (by omega)))
    refine zE_do 90 81 (tbl := tX3_isAs) zck_43 rfl (h := ?_)
    refine ⟨hh.k3, fun c => ?_, fun c => ?_⟩
    · exfalso
      have c : mem (h + 0) ≤ nI i := c
      rw [e0, nLe (by omega) (by omega)] at c
      omega
    · refine ⟨hh.k3, _, hh.lk 0 (by omega), Or.inl (hh.ka 0 (by omega)), hh.inn (by omega), ho.k3, _, ho.lk 0 (by omega), Or.inl (ho.ka 0 (by omega)), ho.inn (by omega), fun c0 => ⟨rfl, rfl, rfl, no 0 (by omega) ?_⟩, fun c0 => ?_⟩
      · exact fun z => c0 ((ec 0 (by omega)).mpr z)
      refine ⟨hh.k3, _, hh.lk 1 (by omega), Or.inl (hh.ka 1 (by omega)), hh.inn (by omega), ho.k3, _, ho.lk 1 (by omega), Or.inl (ho.ka 1 (by omega)), ho.inn (by omega), fun c1 => ⟨rfl, rfl, rfl, no 1 (by omega) ?_⟩, fun c1 => ?_⟩
      · exact fun z => c1 ((ec 1 (by omega)).mpr z)
      refine ⟨hh.k3, _, hh.lk 2 (by omega), Or.inl (hh.ka 2 (by omega)), hh.inn (by omega), ho.k3, _, ho.lk 2 (by omega), Or.inl (ho.ka 2 (by omega)), ho.inn (by omega), fun c2 => ⟨rfl, rfl, rfl, no 2 (by omega) ?_⟩, fun c2 => ?_⟩
      · exact fun z => c2 ((ec 2 (by omega)).mpr z)
      refine ⟨hh.k3, _, hh.lk 3 (by omega), Or.inl (hh.ka 3 (by omega)), hh.inn (by omega), ho.k3, _, ho.lk 3 (by omega), Or.inl (ho.ka 3 (by omega)), ho.inn (by omega), fun c3 => ⟨rfl, rfl, rfl, no 3 (by omega) ?_⟩, fun c3 => ?_⟩
      · exact fun z => c3 ((ec 3 (by omega)).mpr z)
      refine ⟨hh.k3, _, hh.lk 4 (by omega), Or.inl (hh.ka 4 (by omega)), hh.inn (by omega), ho.k3, _, ho.lk 4 (by omega), Or.inl (ho.ka 4 (by omega)), ho.inn (by omega), fun c4 => k (fun f e hf he => ?_), fun c4 => ⟨rfl, rfl, rfl, no 4 (by omega) ?_⟩⟩
      · by_cases z : e < i
        · exact p f e hf z
        · have : e = i := by omega
          subst this
          rcases (by omega : f = 0 ∨ f = 1 ∨ f = 2 ∨ f = 3 ∨ f = 4) with y | y | y | y | y <;> subst y
          · exact (ec 0 (by omega)).mp c0
          · exact (ec 1 (by omega)).mp c1
          · exact (ec 2 (by omega)).mp c2
          · exact (ec 3 (by omega)).mp c3
          · exact (ec 4 (by omega)).mp c4
      · exact fun z => c4 ((ec 4 (by omega)).mpr z)
theorem zWF.lt {g : zH} (w : zWF g) : ∀ f e, f < 5 → e < g 0 → g (7 + 6 * f + e) < 1000 := fun f e hf he => by
  obtain ⟨c1, c2, c3, c4, c5⟩ := w.2.2.2.2.2.2.2.2 e he
  have w1 := w.2.2.1
  rcases (by omega : f = 0 ∨ f = 1 ∨ f = 2 ∨ f = 3 ∨ f = 4) with y | y | y | y | y <;> subst y
  · show g (7 + e) < 1000; omega
  · show g (13 + e) < 1000; omega
  · show g (19 + e) < 1000; omega
  · show g (25 + e) < 1000; omega
  · show g (31 + e) < 1000; omega
theorem zWF.lt7 {g : zH} (w : zWF g) : ∀ k, k < 7 → g k < 2147483648 := fun k hk => by
  obtain ⟨c0, c1, c2, c3, c4, c5, c6, c7, -⟩ := w
  rcases (by omega : k = 0 ∨ k = 1 ∨ k = 2 ∨ k = 3 ∨ k = 4 ∨ k = 5 ∨ k = 6) with z | z | z | z | z | z | z <;> subst z <;> omega
theorem ok_isAs {g' : zH} (hdd : 0 < d) (hh : zHo lk h) (ho : zHo lk o) (hb : zHB mem h g) (hb' : zHB mem o g') (wf : zWF g) (wf' : zWF g') (q1 : zsame g g' → Q (some (.int (nI 1))) mem) (q0 : ¬ zsame g g' → Q (some (.int (nI 0))) mem) : zOk X d 43 [.ref h, .ref o] mem lk L lk L Q := by
  have ec : ∀ k, k < 7 → (mem (h + k) = mem (o + k) ↔ g k = g' k) := fun k hk => by
    rw [hb.k k hk, hb'.k k hk, nEq (wf.lt7 k hk) (wf'.lt7 k hk)]
  have no : ∀ k, k < 7 → ¬ mem (h + k) = mem (o + k) → Q (some (.int (nI 0))) mem := fun k hk hz => q0 (fun z => hz ((ec k hk).mpr (z.1 k hk)))
  refine zOk_do 60 (tbl := tX3_isAs) zck_43 rfl hdd (h := ?_)
  refine ⟨hh.k3, ho.k3, fun c => ⟨rfl, rfl, rfl, no 1 (by omega) c⟩, fun c1 => ⟨hh.k3, ho.k3, fun c => ⟨rfl, rfl, rfl, no 2 (by omega) c⟩, fun c2 => ⟨hh.k3, ho.k3, fun c => ⟨rfl, rfl, rfl, no 3 (by omega) c⟩, fun c3 => ⟨hh.k3, ho.k3, fun c => ⟨rfl, rfl, rfl, no 6 (by omega) c⟩, fun c6 => ⟨hh.k3, ho.k3, fun c => ⟨rfl, rfl, rfl, no 4 (by omega) c⟩, fun c4 => ⟨hh.k3, ho.k3, fun c => ⟨rfl, rfl, rfl, no 5 (by omega) c⟩, fun c5 => ⟨hh.k3, ho.k3, fun c0 => ?_, fun c => ⟨rfl, rfl, rfl, no 0 (by omega) c⟩⟩⟩⟩⟩⟩⟩⟩
  have a0 : g 0 = g' 0 := (ec 0 (by omega)).mp c0
  have a1 : g 1 = g' 1 := (ec 1 (by omega)).mp c1
  have a2 : g 2 = g' 2 := (ec 2 (by omega)).mp c2
  have a3 : g 3 = g' 3 := (ec 3 (by omega)).mp c3
  have a4 : g 4 = g' 4 := (ec 4 (by omega)).mp c4
  have a5 : g 5 = g' 5 := (ec 5 (by omega)).mp c5
  have a6 : g 6 = g' 6 := (ec 6 (by omega)).mp c6
  exact isAs_loop hh ho hb hb' wf.1 a0 wf.lt wf'.lt (fun z => q1 ⟨fun k hk => by rcases (by omega : k = 0 ∨ k = 1 ∨ k = 2 ∨ k = 3 ∨ k = 4 ∨ k = 5 ∨ k = 6) with y | y | y | y | y | y | y <;> subst y <;> assumption, z⟩) (fun z => q0 (fun y => z y.2)) (g 0) 0 (by omega) (fun f e hf he => by omega)
/-- a house that is begun -/
def zbare (f r w : Nat) : zH := fun k => if k = 1 then f else if k = 2 then r else if k = 3 then w else if k = 5 then 1 else 0
theorem ok_build {a b c : Nat} (hdd : 0 < d) (hh : zHo lk h) (q : ∀ mem', zHB mem' h (zbare a b c) → zfr mem mem' h → Q none mem') : zOk X d 41 [.ref h, .int (nI a), .int (nI b), .int (nI c)] mem lk L lk L Q := by
  refine zOk_do 60 (tbl := tX3_build) zck_41 rfl hdd (h := ?_)
  refine ⟨hh.k3, hh.k3, hh.k3, hh.k3, hh.k3, hh.k3, hh.k3, rfl, rfl, q _ ⟨fun k hk => ?_, fun f e hf he => absurd he (Nat.not_lt_zero e)⟩ ?_⟩
  · show upd (upd (upd (upd (upd (upd (upd mem (h + 1) (nI a)) (h + 2) (nI b)) (h + 3) (nI c)) (h + 6) (nI 0)) (h + 4) (nI 0)) (h + 5) (nI 1)) (h + 0) (nI 0) (h + k) = nI (zbare a b c k)
    rcases (by omega : k = 0 ∨ k = 1 ∨ k = 2 ∨ k = 3 ∨ k = 4 ∨ k = 5 ∨ k = 6) with z | z | z | z | z | z | z <;> subst z
    · rw [upd_eq]; rfl
    · rw [upd_ne (by omega), upd_ne (by omega), upd_ne (by omega), upd_ne (by omega), upd_ne (by omega), upd_ne (by omega), upd_eq]; rfl
    · rw [upd_ne (by omega), upd_ne (by omega), upd_ne (by omega), upd_ne (by omega), upd_ne (by omega), upd_eq]; rfl
    · rw [upd_ne (by omega), upd_ne (by omega), upd_ne (by omega), upd_ne (by omega), upd_eq]; rfl
    · rw [upd_ne (by omega), upd_ne (by omega), upd_eq]; rfl
    · rw [upd_ne (by omega), upd_eq]; rfl
    · rw [upd_ne (by omega), upd_ne (by omega), upd_ne (by omega), upd_eq]; rfl
  · exact ((((((zfr.up (by omega) (by omega)).tr (zfr.up (by omega) (by omega))).tr (zfr.up (by omega) (by omega))).tr (zfr.up (by omega) (by omega))).tr (zfr.up (by omega) (by omega))).tr (zfr.up (by omega) (by omega))).tr (zfr.up (by omega) (by omega))
end HB
