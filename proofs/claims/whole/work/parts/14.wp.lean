/-! rows as a condition are sound -/
theorem zI1_ok {st : List Value} {k : Int32 → List Value → Prop} (h : zI1 st k) : ∃ x st', st = .int x :: st' ∧ k x st' := by
  unfold zI1 at h
  split at h
  · exact ⟨_, _, rfl, h⟩
  · exact h.elim
theorem zI2_ok {st : List Value} {k : Int32 → Int32 → List Value → Prop} (h : zI2 st k) : ∃ z x st', st = .int z :: .int x :: st' ∧ k z x st' := by
  unfold zI2 at h
  split at h
  · exact ⟨_, _, _, rfl, h⟩
  · exact h.elim
theorem zL1_ok {st : List Value} {k : Int64 → List Value → Prop} (h : zL1 st k) : ∃ x st', st = .long x :: st' ∧ k x st' := by
  unfold zL1 at h
  split at h
  · exact ⟨_, _, rfl, h⟩
  · exact h.elim
theorem zL2_ok {st : List Value} {k : Int64 → Int64 → List Value → Prop} (h : zL2 st k) : ∃ z x st', st = .long z :: .long x :: st' ∧ k z x st' := by
  unfold zL2 at h
  split at h
  · exact ⟨_, _, _, rfl, h⟩
  · exact h.elim
theorem zA1_ok {st : List Value} {k : Nat → List Value → Prop} (h : zA1 st k) : ∃ x st', st = .ref x :: st' ∧ k x st' := by
  unfold zA1 at h
  split at h
  · exact ⟨_, _, rfl, h⟩
  · exact h.elim
theorem zIA_ok {st : List Value} {k : Int32 → Nat → List Value → Prop} (h : zIA st k) : ∃ i x st', st = .int i :: .ref x :: st' ∧ k i x st' := by
  unfold zIA at h
  split at h
  · exact ⟨_, _, _, rfl, h⟩
  · exact h.elim
theorem zAA_ok {st : List Value} {k : Nat → Nat → List Value → Prop} (h : zAA st k) : ∃ v x st', st = .ref v :: .ref x :: st' ∧ k v x st' := by
  unfold zAA at h
  split at h
  · exact ⟨_, _, _, rfl, h⟩
  · exact h.elim
theorem zIIA_ok {st : List Value} {k : Int32 → Int32 → Nat → List Value → Prop} (h : zIIA st k) : ∃ v i x st', st = .int v :: .int i :: .ref x :: st' ∧ k v i x st' := by
  unfold zIIA at h
  split at h
  · exact ⟨_, _, _, _, rfl, h⟩
  · exact h.elim
theorem zAIA_ok {st : List Value} {k : Nat → Int32 → Nat → List Value → Prop} (h : zAIA st k) : ∃ v i x st', st = .ref v :: .int i :: .ref x :: st' ∧ k v i x st' := by
  unfold zAIA at h
  split at h
  · exact ⟨_, _, _, _, rfl, h⟩
  · exact h.elim
theorem zcpS_ok {st : List Value} {k : Int32 → Int32 → Nat → Int32 → Nat → List Value → Prop} (h : zcpS st k) : ∃ n dp g sp f st', st = .int n :: .int dp :: .ref g :: .int sp :: .ref f :: st' ∧ k n dp g sp f st' := by
  unfold zcpS at h
  split at h
  · exact ⟨_, _, _, _, _, _, rfl, h⟩
  · exact h.elim
theorem zlI_ok {ls : List Value} {i : Nat} {k : Int32 → Prop} (h : zlI ls i k) : ∃ x, ls[i]? = some (.int x) ∧ k x := by
  unfold zlI at h
  split at h
  · rename_i x hx; exact ⟨x, hx, h⟩
  · exact h.elim
theorem zlL_ok {ls : List Value} {i : Nat} {k : Int64 → Prop} (h : zlL ls i k) : ∃ x, ls[i]? = some (.long x) ∧ k x := by
  unfold zlL at h
  split at h
  · rename_i x hx; exact ⟨x, hx, h⟩
  · exact h.elim
theorem zlA_ok {ls : List Value} {i : Nat} {k : Nat → Prop} (h : zlA ls i k) : ∃ x, ls[i]? = some (.ref x) ∧ k x := by
  unfold zlA at h
  split at h
  · rename_i x hx; exact ⟨x, hx, h⟩
  · exact h.elim
theorem zlS_ok {ls : List Value} {i : Nat} {k : Prop} (h : zlS ls i k) : ∃ x, ls[i]? = some x ∧ k := by
  unfold zlS at h
  split at h
  · rename_i x hx; exact ⟨x, hx, h⟩
  · exact h.elim
theorem zsg_cv {a b : Nat} {P : Int32 → Prop} (h : zsg b (P (nI a)) (P (-(nI a)))) : P (zcv a b) := by
  cases b with
  | zero => exact h
  | succ b => exact h
theorem zsg_clv {a b : Nat} {P : Int64 → Prop} (h : zsg b (P (lN a)) (P (-(lN a)))) : P (zclv a b) := by
  cases b with
  | zero => exact h
  | succ b => exact h
theorem zts_ok {ts : List (Nat × Nat)} {k : Nat → Nat → Prop} (h : zts ts k) : ∃ n al, ts = [(n, al)] ∧ k n al := by
  unfold zts at h
  split at h
  · exact ⟨_, _, rfl, h⟩
  · exact h.elim
theorem zfit_ok {st : List Value} {k : Prop} (h : zfit st k) : zcat st ≤ 8 ∧ k := by
  unfold zfit at h
  split at h
  · rename_i hb; exact ⟨Nat.le_of_ble_eq_true hb, h⟩
  · exact h.elim
theorem zargS_ok {n : Nat} {st : List Value} {k : List Value → List Value → Prop} (h : zargS n st k) : ∃ as st', zpop n [] st = some (as, st') ∧ k as st' := by
  unfold zargS at h
  split at h
  · rename_i hb; exact ⟨_, _, hb, h⟩
  · exact h.elim
theorem zargV_ok {n : Nat} {st : List Value} {k : Nat → List Value → List Value → Prop} (h : zargV n st k) : ∃ o as st', zpop (n + 1) [] st = some (.ref o :: as, st') ∧ k o as st' := by
  unfold zargV at h
  split at h
  · rename_i hb; exact ⟨_, _, _, hb, h⟩
  · exact h.elim
theorem zcall_ok {X d : Nat} {Lf : List Nat} {y' al : Nat} {args : List Value} {mem : zMem} {lk : zLk} {L : List Nat} {C : Option Value → zMem → zLk → List Nat → Prop} (hle : L.length ≤ Lf.length) (h : zcall X d Lf y' al args mem lk L C) :
    ∃ lk' L', L'.length ≤ Lf.length ∧ L.length ≤ L'.length ∧ zOk X (d - 1) y' args mem lk L lk' L' (fun r mem' => C r mem' lk' L') := by
  unfold zcall at h
  cases al with
  | zero => exact ⟨lk, L, hle, Nat.le_refl _, h⟩
  | succ al => exact h
theorem band {a b : Bool} (h : (a && b) = true) : a = true ∧ b = true := by
  rw [Bool.and_eq_true] at h; exact h
theorem zword_in {c : Nat} {w : Cond} (h : zword c w = true) (g : goodWord w = true) : w ∈ zgd := zgd_in (of_decide_eq_true h) g
theorem zlk_in {c t o i u v : Nat} (h : zlk c t o i u v = true) (g : goodWord (zlW t o i u v) = true) : zlW t o i u v ∈ zgd := by
  obtain ⟨p, hp⟩ := zlk_at h
  exact zgd_in hp g
theorem zmkB_ok {y : Nat} (h : zmkB y = true) : zMk y ∧ zmO y = (zmN y).cls ∧ ∃ md al n p1 p2 p3 p4 k o, zmF y = [md, al, n, p1, p2, p3, p4, k, o] ∧ (parseMethodDescriptor (zmN y).desc).map (fun d => d.parameters.length) = some n ∧
    (md = 1 → Cond.static (zmN y) ∈ zgd) ∧ (md = 2 → Cond.instanceMethod (zmN y) ∈ zgd ∧ (zmN y).name = "<init>" ∧ zmR y = none) ∧ (md = 0 → Cond.instanceMethod (zmN y) ∈ zgd ∧ Cond.selects (zmN y).cls (zmN y) (zmN y) ∈ zgd ∧ (vwCl[k]?).map (fun q => q.1) = some (zmN y).cls) := by
  unfold zmkB at h
  split at h
  · rename_i md al n p1 p2 p3 p4 k o hF
    obtain ⟨h1, h⟩ := band h
    obtain ⟨h2, h⟩ := band h
    obtain ⟨h3, h⟩ := band h
    obtain ⟨h4, h⟩ := band h
    obtain ⟨h5, h⟩ := band h
    obtain ⟨h6, h⟩ := band h
    obtain ⟨h7, h⟩ := band h
    obtain ⟨h8, h⟩ := band h
    refine ⟨⟨zword_in h1 rfl, zword_in h2 rfl, ⟨of_decide_eq_true h3, of_decide_eq_true h4⟩, Nat.le_of_ble_eq_true h5, h6⟩, of_decide_eq_true h7, md, al, n, p1, p2, p3, p4, k, o, hF, of_decide_eq_true h8, fun e => ?_, fun e => ?_, fun e => ?_⟩
    · subst e; exact zword_in h rfl
    · subst e
      obtain ⟨g1, h⟩ := band h
      obtain ⟨g2, h⟩ := band h
      obtain ⟨g3, h⟩ := band h
      exact ⟨zword_in g1 rfl, of_decide_eq_true g2, of_decide_eq_true g3⟩
    · subst e
      obtain ⟨g1, h⟩ := band h
      obtain ⟨g2, h⟩ := band h
      exact ⟨zword_in g1 rfl, zword_in g2 rfl, of_decide_eq_true h⟩
  · cases h
theorem zmx : Cond.code Lib.Math.max.name Lib.Math.max.code 2 (some .int) ∈ zgd ∧ Cond.code Lib.Math.min.name Lib.Math.min.code 2 (some .int) ∈ zgd ∧ Cond.static Lib.Math.max.name ∈ zgd ∧ Cond.static Lib.Math.min.name ∈ zgd ∧ Cond.initialized "java/lang/Math" ∈ zgd ∧ zmN 222 = Lib.Math.max.name ∧ zmN 223 = Lib.Math.min.name := by decide +kernel
theorem zoi : Cond.instanceMethod Lib.objectInit ∈ zgd ∧ Cond.code Lib.objectInit ⟨#[0xb1]⟩ 1 none ∈ zgd ∧ Cond.native arraycopyName ∈ zgd ∧ Cond.static arraycopyName ∈ zgd ∧ Cond.initialized "java/lang/System" ∈ zgd ∧ Cond.arrayClass .int ∈ zgd ∧ Cond.arrayClass .boolean ∈ zgd := by decide +kernel
theorem znewW0 : vwCl.all (fun q => zgd.contains (Cond.instantiable q.1 q.2.2) && zgd.contains (Cond.initialized q.1)) = true := by decide +kernel
theorem znewW {a : Nat} {q : vw_C} (h : vwCl[a]? = some q) : Cond.instantiable q.1 q.2.2 ∈ zgd ∧ Cond.initialized q.1 ∈ zgd := by
  obtain ⟨h1, h2⟩ := band (List.all_eq_true.mp znewW0 q (List.mem_of_getElem? h))
  exact ⟨List.contains_iff_mem.mp h1, List.contains_iff_mem.mp h2⟩
theorem zE_max {X d y pc : Nat} {ls st : List Value} {mem : zMem} {lk : zLk} {L : List Nat} {lkf : zLk} {Lf : List Nat} {Q : Option Value → zMem → Prop} {idx : Nat} {x z : Int32} (hd : decode (zmB y) pc = .ok (.invokestatic idx, 3)) (hl : Cond.methodLink (zmO y) idx Lib.Math.max.name ∈ zgd) (hcat : zcat st ≤ 8) (h : zE X d y (pc + 3) ls (.int (if x < z then z else x) :: st) mem lk L lkf Lf Q) : zE X d y pc ls (.int z :: .int x :: st) mem lk L lkf Lf Q := by
  intro p l e R s m args below meth c H locs cells slots A D κ φ Z la hX hC hL hS hXt hV hA i1 i2 h3 h4 h5 K
  have hf := hC.2.2.2.2.2.2.2.2.2.2.2.1
  have hlo := hC.2.2.2.2.2.2.2.2.2.2.2.2
  have hd0 := hC.1
  exact va_mmax hC.2.1 hC.2.2.1 (hC.2.2.2.2.1.trans hL.1.symm) hC.2.2.2.2.2.1 (hC.2.2.2.2.2.2.2.2.1 _ hl) (hC.2.2.2.2.2.2.2.2.1 _ zmx.2.2.1) (hC.2.2.2.2.2.2.2.2.1 _ zmx.2.2.2.2.1) (hC.2.2.2.2.2.2.2.2.1 _ zmx.1) (by omega) (by rw [zcat_tr]; omega) (by omega) (by omega) hd (h p l e R s m args below meth c H locs cells slots A D κ φ Z la hX hC hL hS hXt hV hA i1 (zins_cons trivial (zins_tl (zins_tl i2))) h3 h4 h5 K)
theorem zE_min {X d y pc : Nat} {ls st : List Value} {mem : zMem} {lk : zLk} {L : List Nat} {lkf : zLk} {Lf : List Nat} {Q : Option Value → zMem → Prop} {idx : Nat} {x z : Int32} (hd : decode (zmB y) pc = .ok (.invokestatic idx, 3)) (hl : Cond.methodLink (zmO y) idx Lib.Math.min.name ∈ zgd) (hcat : zcat st ≤ 8) (h : zE X d y (pc + 3) ls (.int (if z < x then z else x) :: st) mem lk L lkf Lf Q) : zE X d y pc ls (.int z :: .int x :: st) mem lk L lkf Lf Q := by
  intro p l e R s m args below meth c H locs cells slots A D κ φ Z la hX hC hL hS hXt hV hA i1 i2 h3 h4 h5 K
  have hf := hC.2.2.2.2.2.2.2.2.2.2.2.1
  have hlo := hC.2.2.2.2.2.2.2.2.2.2.2.2
  have hd0 := hC.1
  exact va_mmin hC.2.1 hC.2.2.1 (hC.2.2.2.2.1.trans hL.1.symm) hC.2.2.2.2.2.1 (hC.2.2.2.2.2.2.2.2.1 _ hl) (hC.2.2.2.2.2.2.2.2.1 _ zmx.2.2.2.1) (hC.2.2.2.2.2.2.2.2.1 _ zmx.2.2.2.2.1) (hC.2.2.2.2.2.2.2.2.1 _ zmx.2.1) (by omega) (by rw [zcat_tr]; omega) (by omega) (by omega) hd (h p l e R s m args below meth c H locs cells slots A D κ φ Z la hX hC hL hS hXt hV hA i1 (zins_cons trivial (zins_tl (zins_tl i2))) h3 h4 h5 K)
theorem zmxl : Cond.code Lib.MathLoose.max_long.x Lib.MathLoose.max_long.code 4 (some .long) ∈ zgd ∧ Cond.static Lib.MathLoose.max_long.x ∈ zgd ∧ zmN 226 = Lib.MathLoose.max_long.x := by decide +kernel
theorem zE_maxl {X d y pc : Nat} {ls st : List Value} {mem : zMem} {lk : zLk} {L : List Nat} {lkf : zLk} {Lf : List Nat} {Q : Option Value → zMem → Prop} {idx : Nat} {x z : Int64} (hd : decode (zmB y) pc = .ok (.invokestatic idx, 3)) (hl : Cond.methodLink (zmO y) idx Lib.MathLoose.max_long.x ∈ zgd) (hcat : zcat st ≤ 8) (h : zE X d y (pc + 3) ls (.long (if z < x then x else z) :: st) mem lk L lkf Lf Q) : zE X d y pc ls (.long z :: .long x :: st) mem lk L lkf Lf Q := by
  intro p l e R s m args below meth c H locs cells slots A D κ φ Z la hX hC hL hS hXt hV hA i1 i2 h3 h4 h5 K
  have hf := hC.2.2.2.2.2.2.2.2.2.2.2.1
  have hlo := hC.2.2.2.2.2.2.2.2.2.2.2.2
  have hd0 := hC.1
  exact va_mmax_long hC.2.1 hC.2.2.1 (hC.2.2.2.2.1.trans hL.1.symm) hC.2.2.2.2.2.1 (hC.2.2.2.2.2.2.2.2.1 _ hl) (hC.2.2.2.2.2.2.2.2.1 _ zmxl.2.1) (hC.2.2.2.2.2.2.2.2.1 _ zmx.2.2.2.2.1) (hC.2.2.2.2.2.2.2.2.1 _ zmxl.1) (by omega) (by rw [zcat_tr]; omega) (by omega) (by omega) hd (h p l e R s m args below meth c H locs cells slots A D κ φ Z la hX hC hL hS hXt hV hA i1 (zins_cons trivial (zins_tl (zins_tl i2))) h3 h4 h5 K)
theorem zfrom_ok : ∀ (tbl : List zR) (a : Nat), zfrom tbl a <:+ tbl ∧ ∀ r l, zfrom tbl a = r :: l → r.1 = a
  | [], a => ⟨List.suffix_refl _, fun r l h => by cases h⟩
  | r :: t, a => by
    by_cases e : r.1 = a
    · have : zfrom (r :: t) a = r :: t := by
        show (bif Nat.beq r.1 a then r :: t else zfrom t a) = _
        rw [show Nat.beq r.1 a = true by rw [Nat.beq_eq]; exact e]; rfl
      rw [this]
      exact ⟨List.suffix_refl _, fun r' l h => by cases h; exact e⟩
    · have : zfrom (r :: t) a = zfrom t a := by
        show (bif Nat.beq r.1 a then r :: t else zfrom t a) = _
        rw [show Nat.beq r.1 a = false by rw [Bool.eq_false_iff, ne_eq, Nat.beq_eq]; exact e]; rfl
      rw [this]
      obtain ⟨h1, h2⟩ := zfrom_ok t a
      exact ⟨h1.trans (List.suffix_cons _ _), h2⟩
theorem zadj_ok : ∀ (tbl : List zR), zadj tbl = true → ∀ r r' l, (r :: r' :: l) <:+ tbl → r.1 + r.2.2.1 = r'.1
  | [], _, r, r', l, hs => by
    obtain ⟨t, ht⟩ := hs
    cases t <;> cases ht
  | q :: tbl, h, r, r', l, hs => by
    rcases List.suffix_cons_iff.mp hs with e | e
    · cases e
      exact Nat.eq_of_beq_eq_true (band h).1
    · refine zadj_ok tbl ?_ r r' l e
      cases tbl with
      | nil => rfl
      | cons q' tbl => exact (band h).2
section ZS
variable {X d y : Nat} {lkf : zLk} {Lf : List Nat} {Q : Option Value → zMem → Prop}
theorem nI_ne {x : Int32} {w : Nat} (hw : w < 1000000) (h : x.toInt ≠ (w : Int)) : ¬ x = nI w := fun e => h (by rw [e, nI_toInt (by omega)])
theorem nI_is {x : Int32} {w : Nat} (hw : w < 1000000) (h : x.toInt = (w : Int)) : x = nI w := Int32.toInt_inj.mp (by rw [h, nI_toInt (by omega)])
theorem zsw_tab {pc : Nat} {x : Int32} {J : Nat → Prop} {dflt : Nat} : ∀ (offs : List Int) (ts : List (Nat × Nat)) (v : Int), zswB pc v offs ts = true → zsw x J dflt ts → (∀ (k : Nat) (off : Int), offs[k]? = some off → x.toInt = v + (k : Int) → ∃ t : Nat, (pc : Int) + off = (t : Int) ∧ J t) ∧ ((∀ k : Nat, k < offs.length → x.toInt ≠ v + (k : Int)) → J dflt)
  | [], [], v, _, h => ⟨fun k off hk => by (cases k <;> cases hk), fun _ => h⟩
  | [], _ :: _, v, hb, h => by cases hb
  | _ :: _, [], v, hb, h => by cases hb
  | o :: os, (w, t) :: ts, v, hb, h => by
    obtain ⟨hw, hb⟩ := band hb
    obtain ⟨h1, hb⟩ := band hb
    obtain ⟨h2, hb⟩ := band hb
    have hw : w < 1000000 := by rw [← Nat.blt_eq]; exact hw
    have h1 : (w : Int) = v := of_decide_eq_true h1
    have h2 : (pc : Int) + o = (t : Int) := of_decide_eq_true h2
    have ih := fun hne => zsw_tab os ts (v + 1) hb (h.2 hne)
    refine ⟨fun k off hk hx => ?_, fun hn => ?_⟩
    · cases k with
      | zero =>
        cases hk
        exact ⟨t, h2, h.1 (nI_is hw (by rw [hx, h1]; simp))⟩
      | succ k =>
        have hne : ¬ x = nI w := nI_ne hw (by rw [h1]; omega)
        exact (ih hne).1 k off hk (by rw [hx]; omega)
    · have hne : ¬ x = nI w := nI_ne hw (by rw [h1]; have := hn 0 (by simp); simpa using this)
      exact (ih hne).2 (fun k hk => by have := hn (k + 1) (by simpa using hk); omega)
theorem zsw_lk {pc : Nat} {x : Int32} {J : Nat → Prop} {dflt : Nat} {d0 : Int} (hd : (pc : Int) + d0 = (dflt : Int)) : ∀ (ps : List (Int × Int)) (ts : List (Nat × Nat)), zlkB pc ps ts = true → zsw x J dflt ts → ∃ t : Nat, (pc : Int) + Op.lookupswitch.offset ps d0 x.toInt = (t : Int) ∧ J t
  | [], [], _, h => ⟨dflt, hd, h⟩
  | [], _ :: _, hb, h => by cases hb
  | _ :: _, [], hb, h => by cases hb
  | (v, o) :: ps, (w, t) :: ts, hb, h => by
    obtain ⟨hw, hb⟩ := band hb
    obtain ⟨h1, hb⟩ := band hb
    obtain ⟨h2, hb⟩ := band hb
    have hw : w < 1000000 := by rw [← Nat.blt_eq]; exact hw
    have h1 : (w : Int) = v := of_decide_eq_true h1
    have h2 : (pc : Int) + o = (t : Int) := of_decide_eq_true h2
    rw [Op.lookupswitch.offset_cons]
    by_cases e : v = x.toInt
    · rw [if_pos e]
      exact ⟨t, h2, h.1 (nI_is hw (by rw [h1, e]))⟩
    · rw [if_neg e]
      exact zsw_lk hd ps ts hb (h.2 (nI_ne hw (by rw [h1]; exact fun q => e q.symm)))
theorem zE_tsw {pc a : Nat} {ls st : List Value} {mem : zMem} {lk : zLk} {L : List Nat} {x : Int32} {dflt lo hi : Int} {offs : Array Int} {len : Nat} {ts : List (Nat × Nat)} (hdec : decode (zmB y) pc = .ok (.tableswitch dflt lo hi offs, len)) (h1 : (pc : Int) + dflt = (a : Int)) (h2 : hi = lo + (offs.size : Int) - 1) (hb : zswB pc lo offs.toList ts = true)
    (h : zsw x (fun t => zE X d y t ls st mem lk L lkf Lf Q) a ts) : zE X d y pc ls (.int x :: st) mem lk L lkf Lf Q := by
  obtain ⟨g1, g2⟩ := zsw_tab offs.toList ts lo hb h
  by_cases hlo : x.toInt < lo ∨ hi < x.toInt
  · have k1 := g2 (fun k hk => by rw [Array.length_toList] at hk; omega)
    exact zE_step k1 (fun a b => ⟨a, zins_tl b⟩) (fun _ _ _ _ _ _ _ _ _ _ _ _ _ _ _ _ la hC hL K => lv_tableOut hC.2.1 hC.2.2.1 hdec hlo h1 (K la hL))
  · have hk : (x.toInt - lo).toNat < offs.size := by omega
    have ho : offs[(x.toInt - lo).toNat]? = some offs[(x.toInt - lo).toNat] := Array.getElem?_eq_getElem hk
    obtain ⟨t, ht, k1⟩ := g1 (x.toInt - lo).toNat _ (by rw [Array.getElem?_toList]; exact ho) (by omega)
    exact zE_step k1 (fun a b => ⟨a, zins_tl b⟩) (fun _ _ _ _ _ _ _ _ _ _ _ _ _ _ _ _ la hC hL K => lv_tableIn hC.2.1 hC.2.2.1 hdec (by omega) (by omega) ho ht (K la hL))
theorem zE_lsw {pc a : Nat} {ls st : List Value} {mem : zMem} {lk : zLk} {L : List Nat} {x : Int32} {dflt : Int} {ps : Array (Int × Int)} {len : Nat} {ts : List (Nat × Nat)} (hdec : decode (zmB y) pc = .ok (.lookupswitch dflt ps, len)) (h1 : (pc : Int) + dflt = (a : Int)) (hp : (ps.toList.zip (ps.toList.drop 1)).all (fun (a, next) => a.1 < next.1) = true) (hb : zlkB pc ps.toList ts = true)
    (h : zsw x (fun t => zE X d y t ls st mem lk L lkf Lf Q) a ts) : zE X d y pc ls (.int x :: st) mem lk L lkf Lf Q := by
  obtain ⟨t, ht, k1⟩ := zsw_lk h1 ps.toList ts hb h
  exact zE_step k1 (fun a b => ⟨a, zins_tl b⟩) (fun _ _ _ _ _ _ _ _ _ _ _ _ _ _ _ _ la hC hL K => lv_lookup hC.2.1 hC.2.2.1 hdec hp rfl ht (K la hL))
theorem zsw_mono {x : Int32} {J J' : Nat → Prop} {dflt : Nat} (hJ : ∀ t, J t → J' t) : ∀ ts : List (Nat × Nat), zsw x J dflt ts → zsw x J' dflt ts
  | [], h => hJ _ h
  | (v, t) :: ts, h => ⟨fun e => hJ _ (h.1 e), fun e => zsw_mono hJ ts (h.2 e)⟩
theorem zsg_ok {b : Nat} {p n : Prop} (h : zsg b p n) : (b = 0 ∧ p) ∨ (b ≠ 0 ∧ n) := by
  cases b with
  | zero => exact Or.inl ⟨rfl, h⟩
  | succ b => exact Or.inr ⟨by omega, h⟩
theorem zv9 {a : Nat} (h : a < 9) : ∃ q, vwCl[a]? = some q := ⟨vwCl[a], List.getElem?_eq_getElem h⟩
theorem zown_cls {a : Nat} {q : vw_C} (h : vwCl[a]? = some q) (k : Nat) (hk : k < znf a) : (q.2.1 k).1 = zown a := by
  have := zlt9 h
  have key : ∀ a, a < 9 → ∀ k, k < znf a → (match vwCl[a]? with | some q => (q.2.1 k).1 | none => "") = zown a := by decide +kernel
  have h2 := key a this k hk
  rw [h] at h2
  exact h2
theorem zfB_ok {o idx a b c k i md : Nat} {pf : Bool} (h : zfB o idx a b c k i pf md = true) : ∃ q, vwCl[a]? = some q ∧ k < znf a ∧ b = zoff a k ∧ (i = 0 → zisI a k = false) ∧ (i ≠ 0 → zisI a k = true) ∧ Cond.fieldLink (zown o) idx (q.2.1 k).1 (q.2.1 k).2.1 (q.2.1 k).2.2.1 ∈ zgd ∧
    (pf = true → (i = 0 → (q.2.1 k).2.2.2 = true ∧ md = 2 ∧ (q.2.1 k).1 = zown o) ∧ (i ≠ 0 → (q.2.1 k).2.2.2 = false)) := by
  obtain ⟨h0, h⟩ := band h
  obtain ⟨h1, h⟩ := band h
  obtain ⟨h2, h⟩ := band h
  obtain ⟨h3, h⟩ := band h
  obtain ⟨h4, h⟩ := band h
  have h3 := of_decide_eq_true h3
  have h1 : k < znf a := by rw [← Nat.blt_eq]; exact h1
  obtain ⟨q, hq⟩ := zv9 (a := a) (by rw [← Nat.blt_eq]; exact h0)
  have hw : zlW 0 o idx a k = .fieldLink (zown o) idx (q.2.1 k).1 (q.2.1 k).2.1 (q.2.1 k).2.2.1 := by
    show (match vwCl[a]? with
      | some q => Cond.fieldLink (zown o) idx (q.2.1 k).1 (q.2.1 k).2.1 (q.2.1 k).2.2.1
      | none => .returned) = _
    rw [hq]
  have hfin : zfinB a k = (q.2.1 k).2.2.2 := by
    unfold zfinB
    rw [hq]
  refine ⟨q, hq, h1, Nat.eq_of_beq_eq_true h2, fun e => by subst e; exact h3, fun e => ?_, by rw [← hw]; exact zlk_in h4 (by rw [hw]; rfl), fun hp => ?_⟩
  · cases i with
    | zero => exact absurd rfl e
    | succ i => exact h3
  · subst hp
    refine ⟨fun e => ?_, fun e => ?_⟩
    · subst e
      obtain ⟨g1, h⟩ := band h
      obtain ⟨g2, g3⟩ := band h
      refine ⟨by rw [← hfin]; exact g1, Nat.eq_of_beq_eq_true g2, ?_⟩
      rw [Nat.eq_of_beq_eq_true g3]
      exact zown_cls hq k h1
    · cases i with
      | zero => exact absurd rfl e
      | succ i =>
        have h : (!(zfinB a k)) = true := h
        rw [hfin] at h
        simpa using h
theorem zmode {y' n md0 : Nat} {ts : List (Nat × Nat)} {al : Nat} (hts : ts = [(n, al)]) (h : zmdB ts (zmF y') md0 = true) : ∃ al' p1 p2 p3 p4 k o, zmF y' = [md0, al', n, p1, p2, p3, p4, k, o] := by
  subst hts
  generalize zmF y' = F at h
  unfold zmdB at h
  split at h
  · rename_i n1 w1 md w2 n2 p1 p2 p3 p4 k o1 h1
    obtain ⟨g1, g2⟩ := band h
    have e1 := Nat.eq_of_beq_eq_true g1
    have e2 := Nat.eq_of_beq_eq_true g2
    cases h1
    subst e1; subst e2
    exact ⟨_, _, _, _, _, _, _, rfl⟩
  · cases h
theorem zE_le {pc : Nat} {ls st : List Value} {mem : zMem} {lk : zLk} {L : List Nat} (h : L.length ≤ Lf.length → zE X d y pc ls st mem lk L lkf Lf Q) : zE X d y pc ls st mem lk L lkf Lf Q := by
  intro p l e R s m args below meth c H locs cells slots A D κ φ Z la hX hC hL hS hXt hV hA i1 i2 h3 h4 h5 K
  exact h h3 p l e R s m args below meth c H locs cells slots A D κ φ Z la hX hC hL hS hXt hV hA i1 i2 h3 h4 h5 K
set_option maxHeartbeats 4000000 in
theorem zst_E (hck : zchk y = true) {K : zK} (hK : ∀ r nxt ls st mem lk L, (r :: nxt) <:+ zmT y → K (r :: nxt) ls st mem lk L → zE X d y r.1 ls st mem lk L lkf Lf Q) (hK0 : ∀ ls st mem lk L, ¬ K [] ls st mem lk L) {r : zR} {nxt : List zR} (hsuf : (r :: nxt) <:+ zmT y) {ls st : List Value} {mem : zMem} {lk : zLk} {L : List Nat}
    (h : zst X d lkf Lf Q (zmT y) K (fun a ls st mem lk L => zE X d y a ls st mem lk L lkf Lf Q) r nxt ls st mem lk L) : zE X d y r.1 ls st mem lk L lkf Lf Q := by
  obtain ⟨hall, hadj⟩ := band hck
  have hrc := List.all_eq_true.mp hall r (hsuf.subset List.mem_cons_self)
  obtain ⟨pc, ins, len, hh, a, b, c, ts⟩ := r
  obtain ⟨hdec, hx⟩ := band hrc
  have hdec := of_decide_eq_true hdec
  have hN : ∀ {ls st mem lk L}, K nxt ls st mem lk L → zE X d y (pc + len) ls st mem lk L lkf Lf Q := fun {ls st mem lk L} q => by
    cases nxt with
    | nil => exact absurd q (hK0 ls st mem lk L)
    | cons r' l =>
      have e : pc + len = r'.1 := zadj_ok _ hadj _ _ _ hsuf
      rw [e]
      exact hK r' l ls st mem lk L ((List.suffix_cons _ _).trans hsuf) q
  have hJ : ∀ {t ls st mem lk L}, zjmp (zmT y) K (fun a ls st mem lk L => zE X d y a ls st mem lk L lkf Lf Q) pc t ls st mem lk L → zE X d y t ls st mem lk L lkf Lf Q := fun {t ls st mem lk L} q => by
    unfold zjmp at q
    split at q
    · exact q
    · obtain ⟨f1, f2⟩ := zfrom_ok (zmT y) t
      cases hz : zfrom (zmT y) t with
      | nil => rw [hz] at q; exact absurd q (hK0 ls st mem lk L)
      | cons r' l =>
        rw [hz] at q f1
        have e := f2 r' l hz
        rw [← e]
        exact hK r' l ls st mem lk L f1 q
  cases ins with
  | iconst n => 
    obtain ⟨g1, g2⟩ := band hx
    cases Nat.eq_of_beq_eq_true g1
    exact zE_iconst hdec (of_decide_eq_true g2) (hN (zsg_cv (P := fun v => K nxt ls (.int v :: st) mem lk L) h))
  | bipush n => 
    obtain ⟨g1, g2⟩ := band hx
    cases Nat.eq_of_beq_eq_true g1
    exact zE_bipush hdec (of_decide_eq_true g2) (hN (zsg_cv (P := fun v => K nxt ls (.int v :: st) mem lk L) h))
  | sipush n => 
    obtain ⟨g1, g2⟩ := band hx
    cases Nat.eq_of_beq_eq_true g1
    exact zE_sipush hdec (of_decide_eq_true g2) (hN (zsg_cv (P := fun v => K nxt ls (.int v :: st) mem lk L) h))
  | ldc k => 
    obtain ⟨g1, g2⟩ := band hx
    cases Nat.eq_of_beq_eq_true g1
    exact zE_ldc hdec (zlk_in (t := 5) g2 rfl) (hN (zsg_cv (P := fun v => K nxt ls (.int v :: st) mem lk L) h))
  | ldc_w k => 
    obtain ⟨g1, g2⟩ := band hx
    cases Nat.eq_of_beq_eq_true g1
    exact zE_ldcw hdec (zlk_in (t := 5) g2 rfl) (hN (zsg_cv (P := fun v => K nxt ls (.int v :: st) mem lk L) h))
  | ldc2_w k => 
    obtain ⟨g1, g2⟩ := band hx
    cases Nat.eq_of_beq_eq_true g1
    exact zE_ldc2 hdec (zlk_in (t := 6) g2 rfl) (hN (zsg_clv (P := fun v => K nxt ls (.long v :: st) mem lk L) h))
  | lconst k => 
    obtain ⟨g1, g2⟩ := band hx
    cases Nat.eq_of_beq_eq_true g1
    exact zE_lconst hdec (of_decide_eq_true g2) (hN (zsg_clv (P := fun v => K nxt ls (.long v :: st) mem lk L) h))
  | iload_n k => 
    cases Nat.eq_of_beq_eq_true hx
    obtain ⟨x, g1, g2⟩ := zlI_ok h
    exact zE_iload_n hdec g1 (hN g2)
  | iload k => 
    cases Nat.eq_of_beq_eq_true hx
    obtain ⟨x, g1, g2⟩ := zlI_ok h
    exact zE_iload hdec g1 (hN g2)
  | lload_n k => 
    cases Nat.eq_of_beq_eq_true hx
    obtain ⟨x, g1, g2⟩ := zlL_ok h
    exact zE_lload_n hdec g1 (hN g2)
  | lload k => 
    cases Nat.eq_of_beq_eq_true hx
    obtain ⟨x, g1, g2⟩ := zlL_ok h
    exact zE_lload hdec g1 (hN g2)
  | aload_n k => 
    cases Nat.eq_of_beq_eq_true hx
    obtain ⟨x, g1, g2⟩ := zlA_ok h
    exact zE_aload_n hdec g1 (hN g2)
  | aload k => 
    cases Nat.eq_of_beq_eq_true hx
    obtain ⟨x, g1, g2⟩ := zlA_ok h
    exact zE_aload hdec g1 (hN g2)
  | istore_n k => 
    cases Nat.eq_of_beq_eq_true hx
    obtain ⟨x, st', rfl, g1⟩ := zI1_ok h
    obtain ⟨w, g2, g3⟩ := zlS_ok g1
    exact zE_istore_n hdec g2 (hN g3)
  | istore k => 
    cases Nat.eq_of_beq_eq_true hx
    obtain ⟨x, st', rfl, g1⟩ := zI1_ok h
    obtain ⟨w, g2, g3⟩ := zlS_ok g1
    exact zE_istore hdec g2 (hN g3)
  | lstore_n k => 
    cases Nat.eq_of_beq_eq_true hx
    obtain ⟨x, st', rfl, g1⟩ := zL1_ok h
    obtain ⟨w, g2, g3⟩ := zlS_ok g1
    exact zE_lstore_n hdec g2 (hN g3)
  | lstore k => 
    cases Nat.eq_of_beq_eq_true hx
    obtain ⟨x, st', rfl, g1⟩ := zL1_ok h
    obtain ⟨w, g2, g3⟩ := zlS_ok g1
    exact zE_lstore hdec g2 (hN g3)
  | astore_n k => 
    cases Nat.eq_of_beq_eq_true hx
    obtain ⟨x, st', rfl, g1⟩ := zA1_ok h
    obtain ⟨w, g2, g3⟩ := zlS_ok g1
    exact zE_astore_n hdec g2 (hN g3)
  | astore k => 
    cases Nat.eq_of_beq_eq_true hx
    obtain ⟨x, st', rfl, g1⟩ := zA1_ok h
    obtain ⟨w, g2, g3⟩ := zlS_ok g1
    exact zE_astore hdec g2 (hN g3)
  | iinc k n => 
    obtain ⟨g1, g2⟩ := band hx
    cases Nat.eq_of_beq_eq_true g1
    obtain ⟨x, g3, g4⟩ := zlI_ok h
    exact zE_iinc hdec g3 (by rw [of_decide_eq_true g2]) (hN (zsg_cv (P := fun v => K nxt (zs1 ls k (.int (x + v))) st mem lk L) g4))
  | iadd => 
    cases Nat.eq_of_beq_eq_true hx
    obtain ⟨z, x, st', rfl, g1⟩ := zI2_ok h
    exact zE_iadd hdec (hN g1)
  | isub => 
    cases Nat.eq_of_beq_eq_true hx
    obtain ⟨z, x, st', rfl, g1⟩ := zI2_ok h
    exact zE_isub hdec (hN g1)
  | imul => 
    cases Nat.eq_of_beq_eq_true hx
    obtain ⟨z, x, st', rfl, g1⟩ := zI2_ok h
    exact zE_imul hdec (hN g1)
  | iand => 
    cases Nat.eq_of_beq_eq_true hx
    obtain ⟨z, x, st', rfl, g1⟩ := zI2_ok h
    exact zE_iand hdec (hN g1)
  | ior => 
    cases Nat.eq_of_beq_eq_true hx
    obtain ⟨z, x, st', rfl, g1⟩ := zI2_ok h
    exact zE_ior hdec (hN g1)
  | ixor => 
    cases Nat.eq_of_beq_eq_true hx
    obtain ⟨z, x, st', rfl, g1⟩ := zI2_ok h
    exact zE_ixor hdec (hN g1)
  | ishl => 
    cases Nat.eq_of_beq_eq_true hx
    obtain ⟨z, x, st', rfl, g1⟩ := zI2_ok h
    exact zE_ishl hdec (hN g1)
  | ishr => 
    cases Nat.eq_of_beq_eq_true hx
    obtain ⟨z, x, st', rfl, g1⟩ := zI2_ok h
    exact zE_ishr hdec (hN g1)
  | iushr => 
    cases Nat.eq_of_beq_eq_true hx
    obtain ⟨z, x, st', rfl, g1⟩ := zI2_ok h
    exact zE_iushr hdec (hN g1)
  | idiv => 
    cases Nat.eq_of_beq_eq_true hx
    obtain ⟨z, x, st', rfl, g1, g2⟩ := zI2_ok h
    exact zE_idiv hdec g1 (hN g2)
  | irem => 
    cases Nat.eq_of_beq_eq_true hx
    obtain ⟨z, x, st', rfl, g1, g2⟩ := zI2_ok h
    exact zE_irem hdec g1 (hN g2)
  | ladd => 
    cases Nat.eq_of_beq_eq_true hx
    obtain ⟨z, x, st', rfl, g1⟩ := zL2_ok h
    exact zE_ladd hdec (hN g1)
  | lmul => 
    cases Nat.eq_of_beq_eq_true hx
    obtain ⟨z, x, st', rfl, g1⟩ := zL2_ok h
    exact zE_lmul hdec (hN g1)
  | lcmp => 
    cases Nat.eq_of_beq_eq_true hx
    obtain ⟨z, x, st', rfl, g1⟩ := zL2_ok h
    exact zE_lcmp hdec (hN g1)
  | ldiv => 
    cases Nat.eq_of_beq_eq_true hx
    obtain ⟨z, x, st', rfl, g1, g2⟩ := zL2_ok h
    exact zE_ldiv hdec g1 (hN g2)
  | lrem => 
    cases Nat.eq_of_beq_eq_true hx
    obtain ⟨z, x, st', rfl, g1, g2⟩ := zL2_ok h
    exact zE_lrem hdec g1 (hN g2)
  | ineg => 
    cases Nat.eq_of_beq_eq_true hx
    obtain ⟨x, st', rfl, g1⟩ := zI1_ok h
    exact zE_ineg hdec (hN g1)
  | i2l => 
    cases Nat.eq_of_beq_eq_true hx
    obtain ⟨x, st', rfl, g1⟩ := zI1_ok h
    exact zE_i2l hdec (hN g1)
  | l2i => 
    cases Nat.eq_of_beq_eq_true hx
    obtain ⟨x, st', rfl, g1⟩ := zL1_ok h
    exact zE_l2i hdec (hN g1)
  | i2b => 
    cases Nat.eq_of_beq_eq_true hx
    obtain ⟨x, st', rfl, g1⟩ := zI1_ok h
    exact zE_i2b hdec (hN g1)
  | i2s => 
    cases Nat.eq_of_beq_eq_true hx
    obtain ⟨x, st', rfl, g1⟩ := zI1_ok h
    exact zE_i2s hdec (hN g1)
  | dup => 
    cases Nat.eq_of_beq_eq_true hx
    match st, h with
    | .int x :: st', h => exact zE_dupI hdec (hN h)
    | .ref x :: st', h => exact zE_dupR hdec (hN h)
  | dup2 => 
    cases Nat.eq_of_beq_eq_true hx
    obtain ⟨x, o, st', rfl, g1⟩ := zIA_ok h
    exact zE_dup2 hdec (hN g1)
  | ifCond cnd off => 
    obtain ⟨g1, g2⟩ := band hx
    cases Nat.eq_of_beq_eq_true g1
    have ht := of_decide_eq_true g2
    obtain ⟨x, st', rfl, g3⟩ := zI1_ok h
    cases cnd with
    | eq => exact zE_if_eq hdec ht (fun q => hJ (g3.1 q)) (fun q => hN (g3.2 q))
    | ne => exact zE_if_ne hdec ht (fun q => hJ (g3.1 q)) (fun q => hN (g3.2 q))
    | lt => exact zE_if_lt hdec ht (fun q => hJ (g3.1 q)) (fun q => hN (g3.2 q))
    | ge => exact zE_if_ge hdec ht (fun q => hJ (g3.1 q)) (fun q => hN (g3.2 q))
    | gt => exact zE_if_gt hdec ht (fun q => hJ (g3.1 q)) (fun q => hN (g3.2 q))
    | le => exact zE_if_le hdec ht (fun q => hJ (g3.1 q)) (fun q => hN (g3.2 q))
  | if_icmp cnd off => 
    obtain ⟨g1, g2⟩ := band hx
    cases Nat.eq_of_beq_eq_true g1
    have ht := of_decide_eq_true g2
    obtain ⟨z, x, st', rfl, g3⟩ := zI2_ok h
    cases cnd with
    | eq => exact zE_icmp_eq hdec ht (fun q => hJ (g3.1 q)) (fun q => hN (g3.2 q))
    | ne => exact zE_icmp_ne hdec ht (fun q => hJ (g3.1 q)) (fun q => hN (g3.2 q))
    | lt => exact zE_icmp_lt hdec ht (fun q => hJ (g3.1 q)) (fun q => hN (g3.2 q))
    | ge => exact zE_icmp_ge hdec ht (fun q => hJ (g3.1 q)) (fun q => hN (g3.2 q))
    | gt => exact zE_icmp_gt hdec ht (fun q => hJ (g3.1 q)) (fun q => hN (g3.2 q))
    | le => exact zE_icmp_le hdec ht (fun q => hJ (g3.1 q)) (fun q => hN (g3.2 q))
  | goto off => 
    obtain ⟨g1, g2⟩ := band hx
    cases Nat.eq_of_beq_eq_true g1
    exact zE_goto hdec (of_decide_eq_true g2) (hJ h)
  | ifnull off => 
    obtain ⟨g1, g2⟩ := band hx
    cases Nat.eq_of_beq_eq_true g1
    match st, h with
    | .ref x :: st', h => exact zE_ifnull hdec (hN h)
    | .null :: st', h => exact zE_ifnullN hdec (of_decide_eq_true g2) (hJ h)
  | ifnonnull off => 
    obtain ⟨g1, g2⟩ := band hx
    cases Nat.eq_of_beq_eq_true g1
    match st, h with
    | .ref x :: st', h => exact zE_ifnonnull hdec (of_decide_eq_true g2) (hJ h)
    | .null :: st', h => exact zE_ifnonnullN hdec (hN h)
  | tableswitch dflt lo hi offs => 
    obtain ⟨g1, hx⟩ := band hx
    obtain ⟨g2, hx⟩ := band hx
    obtain ⟨g3, g4⟩ := band hx
    obtain ⟨x, st', rfl, g5⟩ := zI1_ok h
    exact zE_tsw hdec (of_decide_eq_true g1) (of_decide_eq_true g2) g4 (zsw_mono (fun t q => hJ q) ts g5)
  | lookupswitch dflt ps => 
    obtain ⟨g1, hx⟩ := band hx
    obtain ⟨g2, g3⟩ := band hx
    obtain ⟨x, st', rfl, g5⟩ := zI1_ok h
    exact zE_lsw hdec (of_decide_eq_true g1) g2 g3 (zsw_mono (fun t q => hJ q) ts g5)
  | getfield k => 
    obtain ⟨g1, g2⟩ := band hx
    cases Nat.eq_of_beq_eq_true g1
    obtain ⟨o, st', rfl, g3⟩ := zA1_ok h
    obtain ⟨sl, i, rfl, g4⟩ := zts_ok g3
    obtain ⟨q, f1, f2, f3, f4, f5, f6, -⟩ := zfB_ok g2
    rcases zsg_ok g4 with ⟨e, a1, t, a2, a3⟩ | ⟨e, a1, a2⟩
    · subst f3
      exact zE_getR hdec a1 f1 f2 (f4 e) f6 a2 (hN a3)
    · subst f3
      exact zE_getI hdec a1 f1 f2 (f5 e) f6 (hN a2)
  | putfield k => 
    obtain ⟨g1, g2⟩ := band hx
    cases Nat.eq_of_beq_eq_true g1
    obtain ⟨sl, i, rfl, g4⟩ := zts_ok h
    obtain ⟨g5, g6⟩ := band g2
    obtain ⟨q, f1, f2, f3, f4, f5, f6, f7⟩ := zfB_ok g6
    rcases zsg_ok g4 with ⟨e, a0⟩ | ⟨e, a0⟩
    · obtain ⟨v, o, st', rfl, a1, a2, a3⟩ := zAA_ok a0
      subst f3
      obtain ⟨b1, b2, b3⟩ := (f7 rfl).1 e
      exact zE_putR hdec a1 f1 f2 (f4 e) f6 b1 (by
        obtain ⟨-, -, md, al2, n2, q1, q2, q3, q4, k2, o2, hF2, -, -, m4, -⟩ := zmkB_ok (zmk_in g5)
        rw [hF2] at b2
        exact (m4 b2).2.1) b3 a2 (hN a3)
    · obtain ⟨v, o, st', rfl, a1, a2⟩ := zIA_ok a0
      subst f3
      exact zE_putI hdec a1 f1 f2 (f5 e) f6 ((f7 rfl).2 e) (hN a2)
  | getstatic k => 
    obtain ⟨g1, g2⟩ := band hx
    cases Nat.eq_of_beq_eq_true g1
    obtain ⟨g3, g4⟩ := band g2
    obtain ⟨q, hq, g5⟩ := List.any_eq_true.mp g3
    have e := Nat.eq_of_beq_eq_true g5
    subst e
    have hf : ∀ q ∈ zst4, zst4.find? (fun q' => Nat.beq q'.1 q.1) = some q := by decide +kernel
    have hw : zlW 8 (zmo y) k q.1 0 = .fieldLink (zmO y) k q.2.1 q.2.2 "[I" := by
      show (match zst4.find? (fun q' => Nat.beq q'.1 q.1) with
        | some q => Cond.fieldLink (zmO y) k q.2.1 q.2.2 "[I"
        | none => .returned) = _
      rw [hf q hq]
    exact zE_gets hdec (C := q.2.1) (n := q.2.2) hq (by rw [← hw]; exact zlk_in g4 (by rw [hw]; rfl)) (hN h)
  | iaload => 
    cases Nat.eq_of_beq_eq_true hx
    obtain ⟨i, o, st', rfl, g1, g2, g3⟩ := zIA_ok h
    exact zE_iald hdec g1 g2 (hN g3)
  | iastore => 
    cases Nat.eq_of_beq_eq_true hx
    obtain ⟨v, i, o, st', rfl, g1, g2, g3⟩ := zIIA_ok h
    exact zE_iast hdec g1 g2 (hN g3)
  | baload => 
    cases Nat.eq_of_beq_eq_true hx
    obtain ⟨i, o, st', rfl, g1, g2, g3⟩ := zIA_ok h
    exact zE_bald hdec g1 g2 (hN g3)
  | bastore => 
    cases Nat.eq_of_beq_eq_true hx
    obtain ⟨v, i, o, st', rfl, g1, g2, g3, g4⟩ := zIIA_ok h
    exact zE_bast hdec g1 g2 g3 (hN g4)
  | aaload => 
    cases Nat.eq_of_beq_eq_true hx
    obtain ⟨i, o, st', rfl, g1, g2, g3, g4⟩ := zIA_ok h
    exact zE_aald hdec g1 g2 (fun q => hN (g3 q)) (fun t q => hN (g4 t q))
  | aastore => 
    cases Nat.eq_of_beq_eq_true hx
    obtain ⟨v, i, o, st', rfl, g1, g2, g3, g4⟩ := zAIA_ok h
    exact zE_aast hdec g1 g2 g3 (hN g4)
  | arraylength => 
    cases Nat.eq_of_beq_eq_true hx
    obtain ⟨o, st', rfl, g1, g2⟩ := zA1_ok h
    exact zE_alen hdec g1 (hN g2)
  | new k => 
    obtain ⟨g1, g2⟩ := band hx
    cases Nat.eq_of_beq_eq_true g1
    obtain ⟨o, a1, a2, a3, a4⟩ := h
    obtain ⟨g3, g4⟩ := band g2
    obtain ⟨q, hq⟩ := zv9 (a := a) (by rw [← Nat.blt_eq]; exact g3)
    have hw : zlW 7 (zmo y) k a 0 = .classLink (zmO y) k q.1 := by
      show (match vwCl[a]? with
        | some q => Cond.classLink (zmO y) k q.1
        | none => .returned) = _
      rw [hq]
    exact zE_new hdec hq (by rw [← hw]; exact zlk_in g4 (by rw [hw]; rfl)) (znewW hq).1 (znewW hq).2 a1 a2 a3 (hN a4)
  | newarray t => 
    cases Nat.eq_of_beq_eq_true hx
    cases t with
    | int =>
      obtain ⟨n, st', rfl, o, a1, a2, a3, a4, a5⟩ := zI1_ok h
      exact zE_newI hdec zoi.2.2.2.2.2.1 a1 a2 a3 a4 (hN a5)
    | boolean =>
      obtain ⟨n, st', rfl, o, a1, a2, a3, a4, a5⟩ := zI1_ok h
      exact zE_newZ hdec zoi.2.2.2.2.2.2 a1 a2 a3 a4 (hN a5)
    | _ => exact h.elim
  | anewarray k => 
    obtain ⟨g1, g2⟩ := band hx
    cases Nat.eq_of_beq_eq_true g1
    obtain ⟨n, st', rfl, o, a1, a2, a3, a4, a5⟩ := zI1_ok h
    exact zE_anew hdec (zlk_in (t := 7) (u := 3) g2 rfl) a1 a2 a3 a4 (hN a5)
  | invokevirtual k => 
    obtain ⟨g1, hx1⟩ := band hx
    obtain ⟨g2, hx2⟩ := band hx1
    obtain ⟨g3, hx3⟩ := band hx2
    obtain ⟨g4, g5⟩ := band hx3
    clear hx hx1 hx2 hx3 hrc
    cases Nat.eq_of_beq_eq_true g1
    cases Nat.eq_of_beq_eq_true g2
    obtain ⟨n, al, e1, h⟩ := zts_ok h
    obtain ⟨o, as, st', h1, h⟩ := zargV_ok h
    obtain ⟨h2, h3, h⟩ := zfit_ok h
    obtain ⟨al', p1, p2, p3, p4, k', o', hF⟩ := zmode e1 g5
    obtain ⟨m1, m2, md, al2, n2, q1, q2, q3, q4, k2, o2, hF2, m3, -, -, m4⟩ := zmkB_ok (zmk_in g3)
    rw [hF] at hF2
    cases hF2
    obtain ⟨m5, m6, m7⟩ := m4 rfl
    rw [hF] at h3
    cases h3
    cases hq : vwCl[kd o]? with
    | none => rw [hq] at m7; cases m7
    | some q =>
      rw [hq] at m7
      refine zE_le (fun hle => ?_)
      obtain ⟨lk', L', l1, l2, hok⟩ := zcall_ok hle h
      exact zE_callV hdec m1 (zlk_in (t := 1) g4 rfl) m5 m6 m3 hq (Option.some.inj m7) h1 h2 l1 l2 hok (fun r mem' hr => hN hr)
  | invokestatic k => 
    obtain ⟨g1, hx0⟩ := band hx
    clear hx hrc
    cases Nat.eq_of_beq_eq_true g1
    match b, hx0, h with
    | 6, hx, h =>
      obtain ⟨g3, g4⟩ := band hx
      cases Nat.eq_of_beq_eq_true g3
      obtain ⟨z, x, st', rfl, h⟩ := zI2_ok h
      obtain ⟨h2, h⟩ := zfit_ok h
      exact zE_max hdec (by rw [← zmx.2.2.2.2.2.1]; exact zlk_in (t := 1) g4 rfl) h2 (hN h)
    | 7, hx, h =>
      obtain ⟨g3, g4⟩ := band hx
      cases Nat.eq_of_beq_eq_true g3
      obtain ⟨z, x, st', rfl, h⟩ := zI2_ok h
      obtain ⟨h2, h⟩ := zfit_ok h
      exact zE_min hdec (by rw [← zmx.2.2.2.2.2.2]; exact zlk_in (t := 1) g4 rfl) h2 (hN h)
    | 8, hx, h =>
      obtain ⟨g3, g4⟩ := band hx
      cases Nat.eq_of_beq_eq_true g3
      obtain ⟨z, x, st', rfl, h⟩ := zL2_ok h
      obtain ⟨h2, h⟩ := zfit_ok h
      exact zE_maxl hdec (by rw [← zmxl.2.2]; exact zlk_in (t := 1) g4 rfl) h2 (hN h)
    | 5, hx, h =>
      obtain ⟨n, dp, g, sp, f, st', rfl, h⟩ := zcpS_ok h
      obtain ⟨h2, a1, a2, a3, a4, a5, a6, a7, a8⟩ := zfit_ok h
      exact zE_copy hdec (zlk_in (t := 4) hx rfl) zoi.2.2.1 zoi.2.2.2.1 zoi.2.2.2.2.1 h2 a1 a2 a3 a4 a5 a6 a7 (hN a8)
    | 0, hx, h =>
      obtain ⟨g3, hx3⟩ := band hx
      obtain ⟨g4, g5⟩ := band hx3
      obtain ⟨n, al, e1, h⟩ := zts_ok h
      obtain ⟨as, st', h1, h⟩ := zargS_ok h
      obtain ⟨h2, h⟩ := zfit_ok h
      obtain ⟨al', p1, p2, p3, p4, k', o', hF⟩ := zmode e1 g5
      obtain ⟨m1, m2, md, al2, n2, q1, q2, q3, q4, k2, o2, hF2, m3, m4, -, -⟩ := zmkB_ok (zmk_in g3)
      rw [hF] at hF2
      cases hF2
      refine zE_le (fun hle => ?_)
      obtain ⟨lk', L', l1, l2, hok⟩ := zcall_ok hle h
      exact zE_callS hdec m1 (zlk_in (t := 1) g4 rfl) (m4 rfl) m3 h1 h2 l1 l2 hok (fun r mem' hr => hN hr)
  | invokespecial k => 
    obtain ⟨g1, hx0⟩ := band hx
    clear hx hrc
    cases Nat.eq_of_beq_eq_true g1
    match b, hx0, h with
    | 4, hx, h =>
      obtain ⟨o, st', rfl, h⟩ := zA1_ok h
      obtain ⟨h2, h⟩ := zfit_ok h
      exact zE_oinit hdec (zlk_in (t := 3) hx rfl) zoi.1 zoi.2.1 h2 (hN h)
    | 2, hx, h =>
      obtain ⟨g3, hx3⟩ := band hx
      obtain ⟨g4, g5⟩ := band hx3
      obtain ⟨n, al, e1, h⟩ := zts_ok h
      obtain ⟨o, as, st', h1, h⟩ := zargV_ok h
      obtain ⟨h2, h⟩ := zfit_ok h
      obtain ⟨al', p1, p2, p3, p4, k', o', hF⟩ := zmode e1 g5
      obtain ⟨m1, m2, md, al2, n2, q1, q2, q3, q4, k2, o2, hF2, m3, -, m4, -⟩ := zmkB_ok (zmk_in g3)
      rw [hF] at hF2
      cases hF2
      obtain ⟨m5, m6, m7⟩ := m4 rfl
      refine zE_le (fun hle => ?_)
      obtain ⟨lk', L', l1, l2, hok⟩ := zcall_ok hle h
      exact zE_callI hdec m1 (zlk_in (t := 1) g4 rfl) m5 m6 m7 m3 h1 h2 l1 l2 hok (fun r mem' hr => hN hr)
    | 3, hx, h =>
      obtain ⟨g3, hx3⟩ := band hx
      obtain ⟨g4, g5⟩ := band hx3
      obtain ⟨n, al, e1, h⟩ := zts_ok h
      obtain ⟨o, as, st', h1, h⟩ := zargV_ok h
      obtain ⟨h2, h⟩ := zfit_ok h
      obtain ⟨al', p1, p2, p3, p4, k', o', hF⟩ := zmode e1 g5
      obtain ⟨m1, m2, md, al2, n2, q1, q2, q3, q4, k2, o2, hF2, m3, -, m4, -⟩ := zmkB_ok (zmk_in g3)
      rw [hF] at hF2
      cases hF2
      obtain ⟨m5, m6, m7⟩ := m4 rfl
      refine zE_le (fun hle => ?_)
      obtain ⟨lk', L', l1, l2, hok⟩ := zcall_ok hle h
      obtain ⟨pw, hpw⟩ := zlk_at g4
      exact zE_callN hdec m1 (znw_in hpw rfl) m5 m6 m7 m3 h1 h2 l1 l2 hok (fun r mem' hr => hN hr)
  | ireturn => 
    obtain ⟨g1, g2⟩ := band hx
    cases Nat.eq_of_beq_eq_true g1
    match st, h with
    | [.int v], h =>
      cases b with
      | zero => exact zE_ret (r := some (.int v)) rfl ⟨hdec, Or.inl (of_decide_eq_true g2)⟩ h.1 h.2.1 h.2.2
      | succ b => exact zE_ret (r := some (.int v)) rfl ⟨hdec, Or.inr ⟨of_decide_eq_true g2, h.2.2.1⟩⟩ h.1 h.2.1 h.2.2.2
  | lreturn => 
    obtain ⟨g1, g2⟩ := band hx
    cases Nat.eq_of_beq_eq_true g1
    match st, h with
    | [.long v], h => exact zE_ret (r := some (.long v)) rfl ⟨hdec, of_decide_eq_true g2⟩ h.1 h.2.1 h.2.2
  | areturn => 
    obtain ⟨g1, g2⟩ := band hx
    cases Nat.eq_of_beq_eq_true g1
    match st, h with
    | [.ref v], h =>
      refine zE_ret (r := some (.ref v)) rfl ⟨hdec, ?_⟩ h.1 h.2.1 h.2.2
      split at g2
      · exact ⟨_, by assumption⟩
      · cases g2
  | return_ => 
    obtain ⟨g1, g2⟩ := band hx
    cases Nat.eq_of_beq_eq_true g1
    match st, h with
    | [], h => exact zE_ret (r := none) rfl ⟨hdec, of_decide_eq_true g2⟩ h.1 h.2.1 h.2.2
  | _ => exact h.elim
theorem zwp_E (hck : zchk y = true) : ∀ (n : Nat) (r : zR) (nxt : List zR) (ls st : List Value) (mem : zMem) (lk : zLk) (L : List Nat), (r :: nxt) <:+ zmT y → zwp X d y lkf Lf Q (zmT y) n (r :: nxt) ls st mem lk L → zE X d y r.1 ls st mem lk L lkf Lf Q
  | 0, r, nxt, ls, st, mem, lk, L, _, h => h
  | n + 1, r, nxt, ls, st, mem, lk, L, hs, h => by
    have h0 : ∀ ls st mem lk L, ¬ zwp X d y lkf Lf Q (zmT y) n [] ls st mem lk L := fun ls st mem lk L q => by cases n <;> exact q
    unfold zwp at h
    split at h
    · exact zst_E hck (fun r' nxt' ls' st' mem' lk' L' hs' q => zwp_E hck n r' nxt' ls' st' mem' lk' L' hs' q) h0 hs h
    · exact h
/-- from a place on: the first row whatever it is, then up to n rows -/
theorem zgo {tbl : List zR} (n pc : Nat) (hck : zchk y = true) (ht : zmT y = tbl) {r : zR} {nxt : List zR} (hf : zfrom tbl pc = r :: nxt) {ls st : List Value} {mem : zMem} {lk : zLk} {L : List Nat}
    (h : zst X d lkf Lf Q tbl (zwp X d y lkf Lf Q tbl n) (fun a ls st mem lk L => zE X d y a ls st mem lk L lkf Lf Q) r nxt ls st mem lk L) : zE X d y pc ls st mem lk L lkf Lf Q := by
  subst ht
  obtain ⟨f1, f2⟩ := zfrom_ok (zmT y) pc
  rw [hf] at f1
  have h0 : ∀ ls st mem lk L, ¬ zwp X d y lkf Lf Q (zmT y) n [] ls st mem lk L := fun ls st mem lk L q => by cases n <;> exact q
  rw [← f2 r nxt hf]
  exact zst_E hck (fun r' nxt' ls' st' mem' lk' L' hs' q => zwp_E hck n r' nxt' ls' st' mem' lk' L' hs' q) h0 f1 h
end ZS
