/-! restore, of the class and of the reference -/
def zIH (k : Nat) : Nat := 10000 + 64 * (29 + k)
def zImg (mem : zMem) (lk : zLk) (L : List Nat) (im : Nat → Option zH) : Prop :=
  ∀ k, k < 2 → (im k = none → lk (700 + k) = none ∧ ∀ j, j < 64 → zIH k + j ∉ L) ∧ ∀ gk, im k = some gk → lk (700 + k) = some (zIH k) ∧ zHo lk (zIH k) ∧ zHB mem (zIH k) gk ∧ zWF gk ∧ 1 ≤ gk 0 ∧ gk 6 ≤ 999
def zMImg (mem : zMem) (im : Nat → Option zH) : Prop :=
  ∀ k, k < 2 → (im k = none → mem (3870 + k) = nI 0) ∧ ∀ gk, im k = some gk → mem (3870 + k) = nI 1 ∧ zRw mem (86 + 43 * k) gk
section RS
variable {X d : Nat} {mem : zMem} {lk : zLk} {L : List Nat} {Q : Option Value → zMem → Prop} {g : zH} {nx u : Nat} {gs : Nat → zH} {im : Nat → Option zH}
theorem ok_restore {x : Int32} (hd : 2 < d) (C : zCN mem lk L nx u g gs) (I : zImg mem lk L im)
    (qB : (x.toInt < 0 ∨ 1 < x.toInt) → Q (some (.int (-(nI 1000001)))) mem) (qS : ∀ k, k < 2 → x = nI k → im k = none → Q (some (.int (-(nI 1000002)))) mem)
    (q : ∀ k gk, k < 2 → x = nI k → im k = some gk → ∀ mem', zCN mem' lk L nx 0 gk gs → (∀ x, x ≠ 662 → ¬ (10000 ≤ x ∧ x < 10037) → mem' x = mem x) → Q (some (.int (nI 1))) mem') : zOk X d 121 [.ref 100, .int x] mem lk L lk L Q := by
  obtain ⟨hk, hh, hb, A⟩ := C
  refine zOk_do 80 (tbl := tX7_restore) zck_121 rfl (by omega) (h := ?_)
  refine ok_isOutside (a := 0) (b := 1) (by omega) (by omega) (by omega) (fun c => zT_eq ⟨rfl, rfl, qB (by omega)⟩) (fun k h1 h2 ex => zF_eq ?_)
  have pS := qS k (by omega) ex
  have p := fun gk => q k gk (by omega) ex
  subst ex
  have ea : (nI k).toNatClampNeg = k := nC (by omega)
  have hin : vp_in (nI k) (ln X 700) := vp_in_nI (show k < 2 by omega) (by show 2 < 2 ^ 31; decide)
  have Ik := I k (by omega)
  refine ⟨rfl, _, hk.at 105 700, Or.inl rfl, hin, fun z => ?_, fun t ht => ?_⟩
  · have z : lk (700 + (nI k).toNatClampNeg) = none := z
    rw [ea] at z
    cases hi : im k with
    | none => exact ⟨rfl, rfl, pS hi⟩
    | some gk => rw [(Ik.2 gk hi).1] at z; cases z
  · have ht : lk (700 + (nI k).toNatClampNeg) = some t := ht
    rw [ea] at ht
    cases hi : im k with
    | none => rw [(Ik.1 hi).1] at ht; cases ht
    | some gk =>
      obtain ⟨i1, i2, i3, i4, i5, i6⟩ := Ik.2 gk hi
      refine ⟨rfl, _, hk.at 102 10000, rfl, _, hk.at 105 700, Or.inl rfl, hin, fun z => ?_, fun t2 ht2 => ?_⟩
      · exfalso
        have z : lk (700 + (nI k).toNatClampNeg) = none := z
        rw [ea, i1] at z; cases z
      · have ht2 : lk (700 + (nI k).toNatClampNeg) = some t2 := ht2
        rw [ea, i1] at ht2
        cases ht2
        refine ⟨by rw [hh.k3]; rfl, ok_become (by omega) hh i2 (by unfold zIH; omega) i3 i4.1 (fun m1 hb1 f1 => ⟨rfl, _, hk.at 104 660, rfl, ok_forget (by omega) ⟨rfl, rfl, ?_⟩⟩)⟩
        obtain ⟨a1, a2, a3, a4, a5, a6, a7, a8⟩ := A
        refine p gk hi _ ⟨hk, hh, hb1.same i4.1 (fun j hj => upd_ne (by omega)), a1, by omega, by rw [upd_ne (by omega), f1 _ (by omega)]; exact a3, upd_eq, a5, a6, a7, fun j hj => by omega⟩ (fun x x1 x2 => by rw [upd_ne x1]; exact f1 x (by omega))
theorem ok_mrestore {x : Int32} (hd : 2 < d) (C : zMN mem lk u g gs) (I : zMImg mem im) (hI : ∀ k gk, k < 2 → im k = some gk → zWF gk)
    (qB : (x.toInt < 0 ∨ 1 < x.toInt) → Q (some (.int (-(nI 1000001)))) mem) (qS : ∀ k, k < 2 → x = nI k → im k = none → Q (some (.int (-(nI 1000002)))) mem)
    (q : ∀ k gk, k < 2 → x = nI k → im k = some gk → ∀ mem', zMN mem' lk 0 gk gs → (∀ x, x ≠ 1001 → ¬ (2000 ≤ x ∧ x < 2043) → mem' x = mem x) → Q (some (.int (nI 1))) mem') : zOk X d 202 [.ref 1000, .int x] mem lk L lk L Q := by
  obtain ⟨hk, hr, A⟩ := C
  refine zOk_do 80 (tbl := tX8_restore) zck_202 rfl (by omega) (h := ?_)
  refine ok_min (a := 0) (b := 1) (by omega) (by omega) (by omega) (fun c => zF_ne ⟨rfl, rfl, qB (by omega)⟩) (fun k h1 h2 ex => zT_ne ?_)
  have pS := qS k (by omega) ex
  have p := fun gk => q k gk (by omega) ex
  subst ex
  have ea : (nI k).toNatClampNeg = k := nC (by omega)
  have hin : vp_in (nI k) (ln X 3870) := vp_in_nI (show k < 2 by omega) (by show 2 < 2 ^ 31; decide)
  have Ik := I k (by omega)
  have e1 : nI 86 + nI 43 * nI k = nI (86 + 43 * k) := by rw [nmul, nI_add]
  refine ⟨rfl, _, hk.2.2.2.2.2.2.2.2.2.1, rfl, hin, fun c => ?_, fun c => ?_⟩
  · have c : ¬ mem (3870 + (nI k).toNatClampNeg) = 0 := c
    rw [ea] at c
    cases hi : im k with
    | none => rw [Ik.1 hi] at c; exact absurd rfl c
    | some gk =>
      have wf := hI k gk (by omega) hi
      refine ⟨rfl, ?_⟩
      rw [e1]
      refine ok_copyOf (a := 86 + 43 * k) (b := 0) (by omega) (by omega) (by omega) (by omega) hk.1 (fun m1 hc hf => ⟨rfl, rfl, rfl, ?_⟩)
      refine p gk hi _ ⟨hk, (Ik.2 gk hi).2.cp wf.1 (fun j hj => ?_), by omega, upd_eq, fun j hj => by omega⟩ (fun x x1 x2 => ?_)
      · rw [upd_ne (by omega)]; exact hc j hj
      · rw [upd_ne (by omega)]; exact hf x (by omega)
  · have c : mem (3870 + (nI k).toNatClampNeg) = 0 := c
    rw [ea] at c
    cases hi : im k with
    | none => exact ⟨rfl, rfl, pS hi⟩
    | some gk => rw [(Ik.2 gk hi).1] at c; exact absurd c (by decide)
end RS
