/-! image, of the class and of the reference -/
def nwK (a h : Nat) (lk : zLk) : zLk := match lk a with
  | none => va_up (zhK h (zclk h lk)) a (some h)
  | some _ => lk
def nwL (a h : Nat) (lk : zLk) (L : List Nat) : List Nat := match lk a with
  | none => zhL h (L ++ [h])
  | some _ => L
theorem nwL_le (a h : Nat) (lk : zLk) (L : List Nat) : L.length ≤ (nwL a h lk L).length := by
  unfold nwL
  split
  · unfold zhL; simp only [List.length_append, List.length_cons, List.length_nil]; omega
  · exact Nat.le_refl _
theorem nwK_ne {a i x : Nat} {lk : zLk} (h1 : x ≠ a) (h2 : ¬ (10000 + 64 * i ≤ x ∧ x < 10000 + 64 * i + 64)) : nwK a (10000 + 64 * i) lk x = lk x := by
  unfold nwK
  cases e : lk a with
  | none =>
    show va_up (zhK (10000 + 64 * i) (zclk (10000 + 64 * i) lk)) a (some (10000 + 64 * i)) x = lk x
    rw [zup_ne h1]
    exact (zhK_lb i _ x h2).trans (zlb.clr (i := i) (o := 10000 + 64 * i) (Nat.le_refl _) (by omega) x h2)
  | some v => rfl
theorem nwK_at {a h : Nat} {lk : zLk} (e : lk a = none ∨ lk a = some h) : nwK a h lk a = some h := by
  unfold nwK
  rcases e with e | e
  · rw [e]; exact zup_eq
  · rw [e]; exact e
theorem nwK_ho {a i : Nat} {lk : zLk} (e : lk a = none ∨ (lk a = some (10000 + 64 * i) ∧ zHo lk (10000 + 64 * i))) (ha : a < 10000) : zHo (nwK a (10000 + 64 * i) lk) (10000 + 64 * i) := by
  unfold nwK
  rcases e with e | ⟨e, e2⟩
  · rw [e]
    exact zHo.lb (b := 0) (zhK_ho i _) (fun x h1 h2 => zup_ne (by omega))
  · rw [e]; exact e2
theorem nwL_in {a h : Nat} {lk : zLk} {L : List Nat} {x : Nat} (hx : x ∈ nwL a h lk L) : x ∈ L ∨ (h ≤ x ∧ x < h + 64) := by
  unfold nwL at hx
  split at hx
  · unfold zhL at hx
    simp only [List.mem_append, List.mem_singleton] at hx
    rcases hx with ((((((h | h) | h) | h) | h) | h)) | h
    · exact Or.inl h
    all_goals exact Or.inr (by omega)
  · exact Or.inl hx
section IM
variable {X d : Nat} {mem : zMem} {lk lkf : zLk} {L Lf : List Nat} {Q : Option Value → zMem → Prop} {g : zH} {u : Nat} {gs : Nat → zH} {im : Nat → Option zH}
theorem image_tail {k : Nat} (hd : 1 < d) (hk2 : k < 2) (hk : zKs lk) (hh : zHo lk 10000) (hb : zHB mem 10000 g) (wf : zWF g) (ha : lk (700 + k) = some (zIH k)) (ho : zHo lk (zIH k))
    (q : ∀ mem', zHB mem' (zIH k) g → zfr mem mem' (zIH k) → Q (some (.int (nI 1))) mem') : zE X d 120 47 [.ref 100, .int (nI k)] [] mem lk L lk L Q := by
  have ea : (nI k).toNatClampNeg = k := nC (by omega)
  have hin : vp_in (nI k) (ln X 700) := vp_in_nI hk2 (by show 2 < 2 ^ 31; decide)
  refine zE_do 60 47 (tbl := tX7_image) zck_120 rfl (h := ?_)
  refine ⟨rfl, _, hk.at 105 700, Or.inl rfl, hin, fun z => ?_, fun t ht => ?_⟩
  · exfalso
    have z : lk (700 + (nI k).toNatClampNeg) = none := z
    rw [ea, ha] at z; cases z
  · have ht : lk (700 + (nI k).toNatClampNeg) = some t := ht
    rw [ea, ha] at ht
    cases ht
    exact ⟨rfl, _, hk.at 102 10000, by rw [ho.k3]; rfl, ok_become (by omega) ho hh (by unfold zIH; omega) hb wf.1 (fun m1 hb1 f1 => ⟨rfl, rfl, q m1 hb1 f1⟩)⟩
theorem ok_mimage {x : Int32} (hd : 2 < d) (hk : zML lk) (hr : zRw mem 0 g) (hN : zNow g) (I : zMImg mem im)
    (hI : ∀ k gk, k < 2 → im k = some gk → gk 0 ≤ 6)
    (qB : (x.toInt < 0 ∨ 1 < x.toInt) → Q (some (.int (-(nI 1000001)))) mem) (qS : ∀ k, k < 2 → x = nI k → g 0 = 0 → Q (some (.int (-(nI 1000002)))) mem)
    (q : ∀ k, k < 2 → x = nI k → 0 < g 0 → ∀ mem', zMImg mem' (va_up im k (some g)) → (∀ x, ¬ (3870 ≤ x ∧ x < 3872) → ¬ (2086 ≤ x ∧ x < 2172) → mem' x = mem x) → Q (some (.int (nI 1))) mem') : zOk X d 201 [.ref 1000, .int x] mem lk L lk L Q := by
  refine zOk_do 80 (tbl := tX8_image) zck_201 rfl (by omega) (h := ?_)
  refine ok_min (a := 0) (b := 1) (by omega) (by omega) (by omega) (fun c => zF_ne ⟨rfl, rfl, qB (by omega)⟩) (fun k h1 h2 ex => zT_ne ⟨rfl, ?_⟩)
  have pS := qS k (by omega) ex
  have p := q k (by omega) ex
  subst ex
  have ea : (nI k).toNatClampNeg = k := nC (by omega)
  have hin : vp_in (nI k) (ln X 3870) := vp_in_nI (show k < 2 by omega) (by show 2 < 2 ^ 31; decide)
  have e1 : nI 86 + nI 43 * nI k = nI (86 + 43 * k) := by rw [nmul, nI_add]
  refine ok_misHouse (by omega) hk.1 hr.1 hN.le.1 (fun h0 => zT_ne ⟨rfl, ?_⟩) (fun h0 => zF_ne ⟨rfl, rfl, pS h0⟩)
  have wf := (hN.wf h0).1
  rw [e1]
  refine ok_copyOf (a := 0) (b := 86 + 43 * k) (by omega) (by omega) (by omega) (by omega) hk.1 (fun m1 hc hf => ⟨rfl, _, hk.2.2.2.2.2.2.2.2.2.1, rfl, hin, rfl, rfl, rfl, ?_⟩)
  show Q (some (.int (nI 1))) (upd m1 (3870 + (nI k).toNatClampNeg) (nI 1))
  rw [ea]
  refine p h0 _ (fun j hj => ?_) (fun x x1 x2 => by rw [upd_ne (by omega)]; exact hf x (by omega))
  by_cases c : j = k
  · subst c
    rw [zup_eq]
    refine ⟨fun z => (by cases z), fun gk hg => ?_⟩
    cases hg
    exact ⟨upd_eq, hr.cp wf.1 (fun i hi => by rw [upd_ne (by omega)]; exact hc i hi)⟩
  · rw [zup_ne c]
    refine ⟨fun z => by rw [upd_ne (by omega), hf _ (by omega)]; exact (I j hj).1 z, fun gk hg => ?_⟩
    obtain ⟨i1, i2⟩ := (I j hj).2 gk hg
    exact ⟨by rw [upd_ne (by omega), hf _ (by omega)]; exact i1, i2.same (hI j gk hj hg) (fun i hi => by rw [upd_ne (by omega)]; exact hf _ (by omega))⟩
theorem ok_image {x : Int32} (hd : 3 < d) (hk : zKs lk) (hh : zHo lk 10000) (hb : zHB mem 10000 g) (hN : zNow g) (I : zImg mem lk L im) (hlen : L.length ≤ Lf.length)
    (qB : (x.toInt < 0 ∨ 1 < x.toInt) → lk = lkf ∧ L = Lf ∧ Q (some (.int (-(nI 1000001)))) mem) (qS : ∀ k, k < 2 → x = nI k → g 0 = 0 → lk = lkf ∧ L = Lf ∧ Q (some (.int (-(nI 1000002)))) mem)
    (q : ∀ k, k < 2 → x = nI k → 0 < g 0 → (lkf = nwK (700 + k) (zIH k) lk ∧ Lf = nwL (700 + k) (zIH k) lk L) ∧ ∀ mem', zHB mem' (zIH k) g → zfb mem mem' (zIH k) → Q (some (.int (nI 1))) mem') : zOk X d 120 [.ref 100, .int x] mem lk L lkf Lf Q := by
  refine zOk_goc [47] 80 (tbl := tX7_image) zck_120 rfl (by omega) hlen (h := ?_)
  refine ok_isOutside (a := 0) (b := 1) (by omega) (by omega) (by omega) (fun c => zT_eq (qB (by omega))) (fun k h1 h2 ex => zF_eq ⟨rfl, _, hk.at 102 10000, by rw [hh.k3]; rfl, ?_⟩)
  have pS := qS k (by omega) ex
  have p := q k (by omega) ex
  subst ex
  refine ok_stands (by omega) hh hb hN.le.1 (fun h0 => zT_ne ?_) (fun h0 => zF_ne (pS h0))
  obtain ⟨⟨p1, p2⟩, p3⟩ := p h0
  subst p1 p2
  have wf := (hN.wf h0).1
  have ea : (nI k).toNatClampNeg = k := nC (by omega)
  have hin : vp_in (nI k) (ln X 700) := vp_in_nI (show k < 2 by omega) (by show 2 < 2 ^ 31; decide)
  have Ik := I k (by omega)
  have hst : lk (700 + k) = none ∨ (lk (700 + k) = some (zIH k) ∧ zHo lk (zIH k)) := by
    cases hi : im k with
    | none => exact Or.inl (Ik.1 hi).1
    | some gk => exact Or.inr ⟨(Ik.2 gk hi).1, (Ik.2 gk hi).2.1⟩
  have hk' : zKs (nwK (700 + k) (zIH k) lk) := by
    refine ⟨fun p hp => ?_, fun j hj => ?_⟩
    · have := zKl_lt p hp
      have h7 : p.1 ≠ 700 ∧ p.1 ≠ 701 := (by decide : ∀ p, p ∈ zKl → p.1 ≠ 700 ∧ p.1 ≠ 701) p hp
      rw [show zIH k = 10000 + 64 * (29 + k) from rfl, nwK_ne (by omega) (by omega)]; exact hk.1 p hp
    · rw [show zIH k = 10000 + 64 * (29 + k) from rfl, nwK_ne (by omega) (by omega)]; exact hk.2 j hj
  have hh' : zHo (nwK (700 + k) (zIH k) lk) 10000 := hh.lb (b := 0) (fun x x1 x2 => nwK_ne (by omega) (by omega))
  have ha' : nwK (700 + k) (zIH k) lk (700 + k) = some (zIH k) := nwK_at (hst.imp id And.left)
  have ho' : zHo (nwK (700 + k) (zIH k) lk) (zIH k) := nwK_ho hst (by omega)
  refine ⟨rfl, _, hk.at 105 700, Or.inl rfl, hin, fun z => ?_, fun t ht => ?_⟩
  · have z : lk (700 + (nI k).toNatClampNeg) = none := z
    rw [ea] at z
    have eK : nwK (700 + k) (zIH k) lk = va_up (zhK (zIH k) (zclk (zIH k) lk)) (700 + k) (some (zIH k)) := by unfold nwK; rw [z]
    have eL : nwL (700 + k) (zIH k) lk L = zhL (zIH k) (L ++ [zIH k]) := by unfold nwL; rw [z]
    have hl5 : (zhL (zIH k) (L ++ [zIH k])).length = L.length + 6 := by unfold zhL; simp only [List.length_append, List.length_cons, List.length_nil]
    have hi : im k = none := by
      cases hi : im k with
      | none => rfl
      | some gk => rw [(Ik.2 gk hi).1] at z; cases z
    have h0L := (Ik.1 hi).2
    have fm : zfb mem (zhM (zIH k) (zclr (zIH k) mem)) (zIH k) := (zfb.clr (i := 29 + k) (o := zIH k) (Nat.le_refl _) (by unfold zIH; omega)).tr (zhM_fb (29 + k) _)
    refine ⟨rfl, _, hk.at 105 700, zIH k, kd_house (29 + k), h0L 0 (by omega), by rw [eL, hl5]; omega, zhK (zIH k) (zclk (zIH k) lk), zhL (zIH k) (L ++ [zIH k]), by rw [eL]; exact Nat.le_refl _, by rw [hl5]; simp only [List.length_append, List.length_cons, List.length_nil]; omega, ok_newHouse (29 + k) (by omega) (fun j hj hj0 => ?_) ?_⟩
    · simp only [List.mem_append, List.mem_singleton, not_or]
      exact ⟨h0L j hj, by unfold zIH; omega⟩
    · refine ⟨rfl, kd_house (29 + k), hin, ?_⟩
      have e1 : va_up (zhK (zIH k) (zclk (zIH k) lk)) (700 + (nI k).toNatClampNeg) (some (zIH k)) = nwK (700 + k) (zIH k) lk := by rw [eK, ea]
      have kk := image_tail (X := X) (d := d) (mem := zhM (zIH k) (zclr (zIH k) mem)) (lk := nwK (700 + k) (zIH k) lk) (L := nwL (700 + k) (zIH k) lk L) (Q := Q) (g := g) (k := k) (by omega) (by omega) hk' hh' (hb.same wf.1 (fun j hj => fm _ (by unfold zIH; omega))) wf ha' ho' (fun m1 hb1 f1 => p3 m1 hb1 (fm.tr f1.fb))
      have kk2 : zE X d 120 47 [.ref 100, .int (nI k)] [] (zhM (zIH k) (zclr (zIH k) mem)) (va_up (zhK (zIH k) (zclk (zIH k) lk)) (700 + (nI k).toNatClampNeg) (some (zIH k))) (zhL (zIH k) (L ++ [zIH k])) (nwK (700 + k) (zIH k) lk) (nwL (700 + k) (zIH k) lk L) Q := by rw [e1, ← eL]; exact kk
      exact kk2
  · have ht : lk (700 + (nI k).toNatClampNeg) = some t := ht
    rw [ea] at ht
    have eK : nwK (700 + k) (zIH k) lk = lk := by unfold nwK; rw [ht]
    have eL : nwL (700 + k) (zIH k) lk L = L := by unfold nwL; rw [ht]
    have kk := image_tail (X := X) (d := d) (mem := mem) (lk := nwK (700 + k) (zIH k) lk) (L := nwL (700 + k) (zIH k) lk L) (Q := Q) (g := g) (k := k) (by omega) (by omega) hk' hh' hb wf ha' ho' (fun m1 hb1 f1 => p3 m1 hb1 f1.fb)
    have kk2 : zE X d 120 47 [.ref 100, .int (nI k)] [] mem lk L (nwK (700 + k) (zIH k) lk) (nwL (700 + k) (zIH k) lk L) Q := by
      have kk3 := kk
      rw [eK, eL] at kk3
      rw [eK, eL]; exact kk3
    exact kk2
end IM
