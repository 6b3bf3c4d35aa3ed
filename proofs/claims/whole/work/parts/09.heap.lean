/-! rows that read and write the world -/
theorem zuw0 : vwCl.all (fun q => (u_ws q.1 q.2.1 q.2.2).all (fun w => zgd.contains w)) = true := by decide +kernel
theorem zuw {a : Nat} {q : vw_C} (h : vwCl[a]? = some q) : ∀ w ∈ u_ws q.1 q.2.1 q.2.2, w ∈ zgd := fun w hw => by
  have h1 := List.all_eq_true.mp zuw0 q (List.mem_of_getElem? h)
  have h2 := List.all_eq_true.mp h1 w hw
  exact List.contains_iff_mem.mp h2
theorem zlt9 {a : Nat} {q : vw_C} (h : vwCl[a]? = some q) : a < 9 := (List.getElem?_eq_some_iff.mp h).1
theorem znf_ok {a : Nat} {q : vw_C} (h : vwCl[a]? = some q) : q.2.2 = znf a := by
  have := zlt9 h
  rcases (show a = 0 ∨ a = 1 ∨ a = 2 ∨ a = 3 ∨ a = 4 ∨ a = 5 ∨ a = 6 ∨ a = 7 ∨ a = 8 by omega) with rfl | rfl | rfl | rfl | rfl | rfl | rfl | rfl | rfl <;> cases h <;> rfl
/-- a type of fields: a number, or a reference -/
def ztyOk (i : Bool) (t : FieldType) : Prop := (i = true → t = .int) ∧ (i = false → (∃ n, t = .object n) ∨ ∃ u, t = .array u)
def ztyB (i : Bool) (t : FieldType) : Bool := match i, t with
  | true, .int => true
  | false, .object _ => true
  | false, .array _ => true
  | _, _ => false
theorem ztyB_ok {i : Bool} {t : FieldType} (h : ztyB i t = true) : ztyOk i t := by
  cases i <;> cases t <;> first | (cases h; done) | exact ⟨fun _ => rfl, fun q => by cases q⟩ | exact ⟨fun q => (by cases q), fun _ => Or.inl ⟨_, rfl⟩⟩ | exact ⟨fun q => (by cases q), fun _ => Or.inr ⟨_, rfl⟩⟩
theorem ztys {a : Nat} {q : vw_C} (h : vwCl[a]? = some q) : ∃ ty0 : Nat → FieldType, (∀ k, k < q.2.2 → parseFieldDescriptor (q.2.1 k).2.2.1 = some (ty0 k)) ∧ ∀ k, k < q.2.2 → ztyB (zisI a k) (ty0 k) = true := by
  have := zlt9 h
  rcases (show a = 0 ∨ a = 1 ∨ a = 2 ∨ a = 3 ∨ a = 4 ∨ a = 5 ∨ a = 6 ∨ a = 7 ∨ a = 8 by omega) with rfl | rfl | rfl | rfl | rfl | rfl | rfl | rfl | rfl <;> cases h
  · exact ⟨tyX0, tyX0_ok, by decide +kernel⟩
  · exact ⟨tyX1, tyX1_ok, by decide +kernel⟩
  · exact ⟨tyX2, tyX2_ok, by decide +kernel⟩
  · exact ⟨tyX3, tyX3_ok, by decide +kernel⟩
  · exact ⟨tyX4, tyX4_ok, by decide +kernel⟩
  · exact ⟨tyX5, tyX5_ok, by decide +kernel⟩
  · exact ⟨tyX6, tyX6_ok, by decide +kernel⟩
  · exact ⟨tyX7, tyX7_ok, by decide +kernel⟩
  · exact ⟨tyX8, tyX8_ok, by decide +kernel⟩
theorem znms {a : Nat} {q : vw_C} (h : vwCl[a]? = some q) : ∀ i, i < q.2.2 → ∀ j, j < q.2.2 → i ≠ j → (q.2.1 i).2.1 ≠ (q.2.1 j).2.1 := by
  have := zlt9 h
  rcases (show a = 0 ∨ a = 1 ∨ a = 2 ∨ a = 3 ∨ a = 4 ∨ a = 5 ∨ a = 6 ∨ a = 7 ∨ a = 8 by omega) with rfl | rfl | rfl | rfl | rfl | rfl | rfl | rfl | rfl <;> cases h
  · exact nmX0
  · exact nmX1
  · exact nmX2
  · exact nmX3
  · exact nmX4
  · exact nmX5
  · exact nmX6
  · exact nmX7
  · exact nmX8
def zfs (φ : Nat → Nat) (mem : zMem) (lk : zLk) (a o : Nat) : List Value := (List.range (znf a)).map (fun k => if zisI a k = true then Value.int (mem (o + zoff a k)) else va_rf ((lk (o + zoff a k)).map φ))
theorem zcell_obj {X : Nat} {κ : Nat → ClassId} {φ : Nat → Nat} {mem : zMem} {lk : zLk} {o a : Nat} (h : kd o = a) (h9 : a < 9) : zcell X κ φ mem lk o = .inr (a, zfs φ mem lk a o) := by
  unfold zcell zfs
  rw [h, if_pos h9]
theorem zcell_int {X : Nat} {κ : Nat → ClassId} {φ : Nat → Nat} {mem : zMem} {lk : zLk} {o a : Nat} (h : kd o = a) (h9 : a = 9 ∨ a = 10) : zcell X κ φ mem lk o = .inl (κ a, ln X o, .inl (fun i => if i < ln X o then mem (o + i) else 0)) := by
  unfold zcell
  rw [h, if_neg (by omega), if_pos (by omega)]
theorem zcell_ref {X : Nat} {κ : Nat → ClassId} {φ : Nat → Nat} {mem : zMem} {lk : zLk} {o a : Nat} (h : kd o = a) (h9 : a = 11 ∨ a = 12) : zcell X κ φ mem lk o = .inl (κ a, ln X o, .inr (.inr (.inr (.inr (fun i => if i < ln X o then (lk (o + i)).map φ else none))))) := by
  unfold zcell
  rw [h, if_neg (by omega), if_neg (by omega)]
theorem zfs_get {φ : Nat → Nat} {mem : zMem} {lk : zLk} {a o k : Nat} (hk : k < znf a) : (zfs φ mem lk a o)[k]? = some (if zisI a k = true then Value.int (mem (o + zoff a k)) else va_rf ((lk (o + zoff a k)).map φ)) := by
  unfold zfs
  rw [List.getElem?_map, List.getElem?_range hk]; rfl
theorem zfs_len {φ : Nat → Nat} {mem : zMem} {lk : zLk} {a o : Nat} : (zfs φ mem lk a o).length = znf a := by
  unfold zfs
  rw [List.length_map, List.length_range]
theorem zoff_inj {a k k' : Nat} (h : a < 9) (hk : k < znf a) (hk' : k' < znf a) (e : zoff a k = zoff a k') : k = k' := by
  by_cases h3 : a = 3
  · subst h3
    have hk2 : k < 12 := hk
    have hk3 : k' < 12 := hk'
    have : ∀ i, i < 12 → ∀ j, j < 12 → zoff 3 i = zoff 3 j → i = j := by decide +kernel
    exact this k hk2 k' hk3 e
  · have hb : Nat.beq a 3 = false := by rw [Bool.eq_false_iff, ne_eq, Nat.beq_eq]; exact h3
    unfold zoff at e
    rw [hb] at e
    exact e
theorem zfs_setI {φ : Nat → Nat} {mem : zMem} {lk : zLk} {a o k : Nat} {v : Int32} (h9 : a < 9) (hk : k < znf a) (hi : zisI a k = true) : (zfs φ mem lk a o).set k (.int v) = zfs φ (upd mem (o + zoff a k) v) lk a o := by
  apply List.ext_getElem?
  intro i
  rw [List.getElem?_set]
  by_cases hin : i < znf a
  · by_cases e : k = i
    · subst e
      rw [if_pos rfl, if_pos (by rw [zfs_len]; exact hk), zfs_get hk, if_pos hi, upd_eq]
    · rw [if_neg e, zfs_get hin, zfs_get hin]
      have : o + zoff a i ≠ o + zoff a k := fun q => e (zoff_inj h9 hk hin (by omega))
      rw [upd_ne this]
  · have h1 : (zfs φ (upd mem (o + zoff a k) v) lk a o)[i]? = none := List.getElem?_eq_none (by rw [zfs_len]; omega)
    have h2 : (zfs φ mem lk a o)[i]? = none := List.getElem?_eq_none (by rw [zfs_len]; omega)
    rw [if_neg (by omega), h1, h2]
theorem zfs_setR {φ : Nat → Nat} {mem : zMem} {lk : zLk} {a o k v : Nat} (h9 : a < 9) (hk : k < znf a) (hi : zisI a k = false) : (zfs φ mem lk a o).set k (.ref (φ v)) = zfs φ mem (va_up lk (o + zoff a k) (some v)) a o := by
  apply List.ext_getElem?
  intro i
  rw [List.getElem?_set]
  by_cases hin : i < znf a
  · by_cases e : k = i
    · subst e
      have : va_up lk (o + zoff a k) (some v) (o + zoff a k) = some v := if_pos rfl
      rw [if_pos rfl, if_pos (by rw [zfs_len]; exact hk), zfs_get hk, hi, this]; rfl
    · rw [if_neg e, zfs_get hin, zfs_get hin]
      have : o + zoff a i ≠ o + zoff a k := fun q => e (zoff_inj h9 hk hin (by omega))
      rw [va_up_ne _ _ this]
  · have h1 : (zfs φ mem (va_up lk (o + zoff a k) (some v)) a o)[i]? = none := List.getElem?_eq_none (by rw [zfs_len]; omega)
    have h2 : (zfs φ mem lk a o)[i]? = none := List.getElem?_eq_none (by rw [zfs_len]; omega)
    rw [if_neg (by omega), h1, h2]
theorem zK1 {X : Nat} {A : Nat → Prop} {D : va_G} {κ : Nat → ClassId} {φ : Nat → Nat} {mem : zMem} {lk : zLk} {L : List Nat} {s : State} {H : Heap} (h : zSm X A D κ φ mem lk L s H) {o : Nat} (ho : o ∈ L) {ty : FieldType} (ht : zaty (kd o) = some ty) : va_K D vwCl [(κ (kd o), ty)] s :=
  ⟨h.2.2.1.1, fun k q hq => by
    have h0 : k < 1 := (List.getElem?_eq_some_iff.mp hq).1
    rw [show k = 0 by omega] at hq
    cases hq
    exact h.2.2.2.1 o ho ty ht⟩
section ZH
variable {X d y pc : Nat} {ls st : List Value} {mem : zMem} {lk : zLk} {L : List Nat} {lkf : zLk} {Lf : List Nat} {Q : Option Value → zMem → Prop}
theorem zE_getI {o a k idx : Nat} {q : vw_C} (hd : decode (zmB y) pc = .ok (.getfield idx, 3)) (hko : kd o = a) (hc : vwCl[a]? = some q) (hk : k < znf a) (hi : zisI a k = true) (hlink : Cond.fieldLink (zmO y) idx (q.2.1 k).1 (q.2.1 k).2.1 (q.2.1 k).2.2.1 ∈ zgd)
    (h : zE X d y (pc + 3) ls (.int (mem (o + zoff a k)) :: st) mem lk L lkf Lf Q) : zE X d y pc ls (.ref o :: st) mem lk L lkf Lf Q := by
  intro p l e R s m args below meth c H locs cells slots A D κ φ Z la hX hC hL hS hXt hV hA i1 i2 h3 h4 h5 K
  have h9 := zlt9 hc
  have hoL : o ∈ L := (zins_hd i2).resolve_right (by omega)
  obtain ⟨q0, hq0⟩ := List.mem_iff_getElem?.mp hoL
  have he := zW_get (X := X) (κ := κ) (φ := φ) (mem := mem) (lk := lk) hq0
  rw [zcell_obj hko h9] at he
  refine va_get (C := q.1) (T := q.2.1) (N := q.2.2) hC.2.1 hC.2.2.1 hC.2.2.2.2.2.2.2.2.1 (zuw hc) hC.2.2.2.2.2.1 hS.2.2.1 hS.1 q0 he hc k (by rw [znf_ok hc]; exact hk) (hC.2.2.2.2.2.2.2.2.1 _ hlink) (fun _ h => h) (zfs_get hk) hd ?_
  rw [if_pos hi]
  exact h p l e R s m args below meth c H locs cells slots A D κ φ Z la hX hC hL hS hXt hV hA i1 (zins_cons trivial (zins_tl i2)) h3 h4 h5 K
theorem zE_getR {o a k idx t : Nat} {q : vw_C} (hd : decode (zmB y) pc = .ok (.getfield idx, 3)) (hko : kd o = a) (hc : vwCl[a]? = some q) (hk : k < znf a) (hi : zisI a k = false) (hlink : Cond.fieldLink (zmO y) idx (q.2.1 k).1 (q.2.1 k).2.1 (q.2.1 k).2.2.1 ∈ zgd)
    (ht : lk (o + zoff a k) = some t) (h : zE X d y (pc + 3) ls (.ref t :: st) mem lk L lkf Lf Q) : zE X d y pc ls (.ref o :: st) mem lk L lkf Lf Q := by
  intro p l e R s m args below meth c H locs cells slots A D κ φ Z la hX hC hL hS hXt hV hA i1 i2 h3 h4 h5 K
  have h9 := zlt9 hc
  have hoL : o ∈ L := (zins_hd i2).resolve_right (by omega)
  obtain ⟨q0, hq0⟩ := List.mem_iff_getElem?.mp hoL
  have he := zW_get (X := X) (κ := κ) (φ := φ) (mem := mem) (lk := lk) hq0
  rw [zcell_obj hko h9] at he
  refine va_get (C := q.1) (T := q.2.1) (N := q.2.2) hC.2.1 hC.2.2.1 hC.2.2.2.2.2.2.2.2.1 (zuw hc) hC.2.2.2.2.2.1 hS.2.2.1 hS.1 q0 he hc k (by rw [znf_ok hc]; exact hk) (hC.2.2.2.2.2.2.2.2.1 _ hlink) (fun _ h => h) (zfs_get hk) hd ?_
  rw [hi, ht]
  exact h p l e R s m args below meth c H locs cells slots A D κ φ Z la hX hC hL hS hXt hV hA i1 (zins_cons (Or.inl (hS.2.2.2.2.2 o hoL _ (Or.inl ⟨by omega, k, by rw [hko]; exact hk, by rw [hko]⟩) t ht)) (zins_tl i2)) h3 h4 h5 K
theorem zE_putI {o a k idx : Nat} {q : vw_C} {v : Int32} (hd : decode (zmB y) pc = .ok (.putfield idx, 3)) (hko : kd o = a) (hc : vwCl[a]? = some q) (hk : k < znf a) (hi : zisI a k = true) (hlink : Cond.fieldLink (zmO y) idx (q.2.1 k).1 (q.2.1 k).2.1 (q.2.1 k).2.2.1 ∈ zgd) (hfin : (q.2.1 k).2.2.2 = false)
    (h : zE X d y (pc + 3) ls st (upd mem (o + zoff a k) v) lk L lkf Lf Q) : zE X d y pc ls (.int v :: .ref o :: st) mem lk L lkf Lf Q := by
  intro p l e R s m args below meth c H locs cells slots A D κ φ Z la hX hC hL hS hXt hV hA i1 i2 h3 h4 h5 K
  have h9 := zlt9 hc
  have hoL : o ∈ L := (zins_hd (zins_tl i2)).resolve_right (by omega)
  obtain ⟨q0, hq0⟩ := List.mem_iff_getElem?.mp hoL
  have he := zW_get (X := X) (κ := κ) (φ := φ) (mem := mem) (lk := lk) hq0
  rw [zcell_obj hko h9] at he
  obtain ⟨ty0, ht1, ht2⟩ := ztys hc
  have hkN : k < q.2.2 := by rw [znf_ok hc]; exact hk
  have hty := (ztyB_ok (ht2 k hkN)).1 hi
  have hh : zhas X o (zoff a k) := Or.inl ⟨by omega, k, by rw [hko]; exact hk, by rw [hko]⟩
  refine va_put (C := q.1) (T := q.2.1) (N := q.2.2) hC.2.1 hC.2.2.1 hC.2.2.2.2.2.2.2.2.1 (zuw hc) ty0 ht1 (znms hc) hC.2.2.2.2.2.1 hS.2.2.1 hS.1 hS.2.1 hV q0 he hc k hkN (hC.2.2.2.2.2.2.2.2.1 _ hlink) (fun _ h => h) hfin (by rw [ht1 k hkN, hty]) rfl rfl (by rw [zfs_len]; exact hk) hd (fun H1 locs1 hP1 hD1 hV1 => ?_)
  rw [show ztr φ (Value.int v) = .int v from rfl, zfs_setI h9 hk hi, ← zcell_obj (X := X) (κ := κ) hko h9] at hP1 hD1
  exact h p l e R s m args below meth c H1 locs1 cells slots A D κ φ Z la hX hC hL (hS.sto hX hq0 hh v hP1 hD1) (hXt.sto hX (by omega) hh v) hV1 hA i1 (zins_tl (zins_tl i2)) h3 h4 h5 K
theorem zE_putR {o a k idx v : Nat} {q : vw_C} (hd : decode (zmB y) pc = .ok (.putfield idx, 3)) (hko : kd o = a) (hc : vwCl[a]? = some q) (hk : k < znf a) (hi : zisI a k = false) (hlink : Cond.fieldLink (zmO y) idx (q.2.1 k).1 (q.2.1 k).2.1 (q.2.1 k).2.2.1 ∈ zgd) (hfin : (q.2.1 k).2.2.2 = true) (hin : (zmN y).name = "<init>") (hown : (q.2.1 k).1 = zmO y) (hv : kd v ≠ 13)
    (h : zE X d y (pc + 3) ls st mem (va_up lk (o + zoff a k) (some v)) L lkf Lf Q) : zE X d y pc ls (.ref v :: .ref o :: st) mem lk L lkf Lf Q := by
  intro p l e R s m args below meth c H locs cells slots A D κ φ Z la hX hC hL hS hXt hV hA i1 i2 h3 h4 h5 K
  have h9 := zlt9 hc
  have hoL : o ∈ L := (zins_hd (zins_tl i2)).resolve_right (by omega)
  have hvL : v ∈ L := (zins_hd i2).resolve_right hv
  obtain ⟨q0, hq0⟩ := List.mem_iff_getElem?.mp hoL
  have he := zW_get (X := X) (κ := κ) (φ := φ) (mem := mem) (lk := lk) hq0
  rw [zcell_obj hko h9] at he
  obtain ⟨ty0, ht1, ht2⟩ := ztys hc
  have hkN : k < q.2.2 := by rw [znf_ok hc]; exact hk
  have hty := (ztyB_ok (ht2 k hkN)).2 hi
  have hh : zhas X o (zoff a k) := Or.inl ⟨by omega, k, by rw [hko]; exact hk, by rw [hko]⟩
  have hname : meth.name = "<init>" := hC.2.2.2.2.2.2.2.1.trans hin
  refine va_putF (C := q.1) (T := q.2.1) (N := q.2.2) (ty := ty0 k) hC.2.1 hC.2.2.1 hC.2.2.2.2.2.2.2.2.1 (zuw hc) ty0 ht1 (znms hc) hC.2.2.2.2.2.1 hS.2.2.1 hS.1 hS.2.1 hV q0 he hc k hkN (hC.2.2.2.2.2.2.2.2.1 _ hlink) (fun _ h => h) hfin hname hown (ht1 k hkN) ?_ ?_ (by rw [zfs_len]; exact hk) hd (fun H1 locs1 hP1 hD1 hV1 => ?_)
  · rcases hty with ⟨n, e⟩ | ⟨n, e⟩ <;> rw [e] <;> rfl
  · rcases hty with ⟨n, e⟩ | ⟨n, e⟩ <;> rw [e] <;> rfl
  · rw [show ztr φ (Value.ref v) = .ref (φ v) from rfl, zfs_setR h9 hk hi, ← zcell_obj (X := X) (κ := κ) hko h9] at hP1 hD1
    exact h p l e R s m args below meth c H1 locs1 cells slots A D κ φ Z la hX hC hL (hS.stl hX hq0 hh hvL hP1 hD1) hXt hV1 hA i1 (zins_tl (zins_tl i2)) h3 h4 h5 K
theorem zE_gets {a idx : Nat} {C n : String} (hd : decode (zmB y) pc = .ok (.getstatic idx, 3)) (ha : (a, C, n) ∈ zst4) (hlink : Cond.fieldLink (zmO y) idx C n "[I" ∈ zgd) (h : zE X d y (pc + 3) ls (.ref a :: st) mem lk L lkf Lf Q) : zE X d y pc ls st mem lk L lkf Lf Q := by
  intro p l e R s m args below meth c H locs cells slots A D κ φ Z la hX hC hL hS hXt hV hA i1 i2 h3 h4 h5 K
  exact va_gets hC.2.1 hC.2.2.1 (hXt.2 _ ha) hV hC.2.2.2.2.2.1 (hC.2.2.2.2.2.2.2.2.1 _ hlink) (fun _ h => h) hd (h p l e R s m args below meth c H locs cells slots A D κ φ Z la hX hC hL hS hXt hV hA i1 (zins_cons (Or.inr (zst4_kd _ ha)) i2) h3 h4 h5 K)
theorem vp_in_lt {i : Int32} {n : Nat} (h : vp_in i n) : i.toNatClampNeg < n := Nat.not_le.mp fun q => h (Or.inr q)
theorem zE_iald {o : Nat} {i : Int32} (hd : decode (zmB y) pc = .ok (.iaload, 1)) (hk : kd o = 9 ∨ kd o = 13) (hi : vp_in i (ln X o)) (h : zE X d y (pc + 1) ls (.int (mem (o + i.toNatClampNeg)) :: st) mem lk L lkf Lf Q) : zE X d y pc ls (.int i :: .ref o :: st) mem lk L lkf Lf Q := by
  intro p l e R s m args below meth c H locs cells slots A D κ φ Z la hX hC hL hS hXt hV hA i1 i2 h3 h4 h5 K
  have k1 := h p l e R s m args below meth c H locs cells slots A D κ φ Z la hX hC hL hS hXt hV hA i1 (zins_cons trivial (zins_tl (zins_tl i2))) h3 h4 h5 K
  rcases hk with hk | hk
  · have hoL : o ∈ L := (zins_hd (zins_tl i2)).resolve_right (by omega)
    obtain ⟨q0, hq0⟩ := List.mem_iff_getElem?.mp hoL
    have he := zW_get (X := X) (κ := κ) (φ := φ) (mem := mem) (lk := lk) hq0
    rw [zcell_int hk (Or.inl rfl)] at he
    have hK := zK1 hS hoL (ty := .int) (by rw [hk]; rfl)
    rw [hk] at hK
    refine va_iald hC.2.1 hC.2.2.1 hK hS.1 q0 0 he rfl hi hd ?_
    rw [if_pos (vp_in_lt hi)]
    exact k1
  · exact va_ti hC.2.1 hC.2.2.1 (hXt.1 o hk) hV hi rfl hd k1
theorem zE_iast {o : Nat} {i v : Int32} (hd : decode (zmB y) pc = .ok (.iastore, 1)) (hk : kd o = 9) (hi : vp_in i (ln X o)) (h : zE X d y (pc + 1) ls st (upd mem (o + i.toNatClampNeg) v) lk L lkf Lf Q) : zE X d y pc ls (.int v :: .int i :: .ref o :: st) mem lk L lkf Lf Q := by
  intro p l e R s m args below meth c H locs cells slots A D κ φ Z la hX hC hL hS hXt hV hA i1 i2 h3 h4 h5 K
  have hoL : o ∈ L := (zins_hd (zins_tl (zins_tl i2))).resolve_right (by omega)
  obtain ⟨q0, hq0⟩ := List.mem_iff_getElem?.mp hoL
  have he := zW_get (X := X) (κ := κ) (φ := φ) (mem := mem) (lk := lk) hq0
  rw [zcell_int hk (Or.inl rfl)] at he
  have hK := zK1 hS hoL (ty := .int) (by rw [hk]; rfl)
  rw [hk] at hK
  have hlt := vp_in_lt hi
  have hh : zhas X o i.toNatClampNeg := Or.inr ⟨by omega, by omega, hlt⟩
  have hf : upd (fun j => if j < ln X o then mem (o + j) else 0) i.toNatClampNeg v = (fun j => if j < ln X o then upd mem (o + i.toNatClampNeg) v (o + j) else 0) := by
    funext j
    by_cases e : j = i.toNatClampNeg
    · subst e; rw [upd_eq, if_pos hlt, upd_eq]
    · rw [upd_ne e, upd_ne (by omega)]
  refine va_iast hC.2.1 hC.2.2.1 hK hS.1 hS.2.1 hV q0 0 he rfl hi hd (fun H1 locs1 hP1 hD1 hV1 => ?_)
  rw [hf, ← zcell_int (κ := κ) (φ := φ) (lk := lk) hk (Or.inl rfl)] at hP1 hD1
  exact h p l e R s m args below meth c H1 locs1 cells slots A D κ φ Z la hX hC hL (hS.sto hX hq0 hh v hP1 hD1) (hXt.sto hX (by omega) hh v) hV1 hA i1 (zins_tl (zins_tl (zins_tl i2))) h3 h4 h5 K
theorem zE_bald {o : Nat} {i : Int32} (hd : decode (zmB y) pc = .ok (.baload, 1)) (hk : kd o = 10) (hi : vp_in i (ln X o)) (h : zE X d y (pc + 1) ls (.int (mem (o + i.toNatClampNeg)) :: st) mem lk L lkf Lf Q) : zE X d y pc ls (.int i :: .ref o :: st) mem lk L lkf Lf Q := by
  intro p l e R s m args below meth c H locs cells slots A D κ φ Z la hX hC hL hS hXt hV hA i1 i2 h3 h4 h5 K
  have k1 := h p l e R s m args below meth c H locs cells slots A D κ φ Z la hX hC hL hS hXt hV hA i1 (zins_cons trivial (zins_tl (zins_tl i2))) h3 h4 h5 K
  have hoL : o ∈ L := (zins_hd (zins_tl i2)).resolve_right (by omega)
  obtain ⟨q0, hq0⟩ := List.mem_iff_getElem?.mp hoL
  have he := zW_get (X := X) (κ := κ) (φ := φ) (mem := mem) (lk := lk) hq0
  rw [zcell_int hk (Or.inr rfl)] at he
  have hK := zK1 hS hoL (ty := .boolean) (by rw [hk]; rfl)
  rw [hk] at hK
  refine va_zald hC.2.1 hC.2.2.1 hK hS.1 q0 0 he rfl hi hd ?_
  rw [if_pos (vp_in_lt hi)]
  exact k1
theorem zE_bast {o : Nat} {i v : Int32} (hd : decode (zmB y) pc = .ok (.bastore, 1)) (hk : kd o = 10) (hi : vp_in i (ln X o)) (hv : vp_nar .boolean v = v) (h : zE X d y (pc + 1) ls st (upd mem (o + i.toNatClampNeg) v) lk L lkf Lf Q) : zE X d y pc ls (.int v :: .int i :: .ref o :: st) mem lk L lkf Lf Q := by
  intro p l e R s m args below meth c H locs cells slots A D κ φ Z la hX hC hL hS hXt hV hA i1 i2 h3 h4 h5 K
  have hoL : o ∈ L := (zins_hd (zins_tl (zins_tl i2))).resolve_right (by omega)
  obtain ⟨q0, hq0⟩ := List.mem_iff_getElem?.mp hoL
  have he := zW_get (X := X) (κ := κ) (φ := φ) (mem := mem) (lk := lk) hq0
  rw [zcell_int hk (Or.inr rfl)] at he
  have hK := zK1 hS hoL (ty := .boolean) (by rw [hk]; rfl)
  rw [hk] at hK
  have hlt := vp_in_lt hi
  have hh : zhas X o i.toNatClampNeg := Or.inr ⟨by omega, by omega, hlt⟩
  have hf : upd (fun j => if j < ln X o then mem (o + j) else 0) i.toNatClampNeg (vp_nar .boolean v) = (fun j => if j < ln X o then upd mem (o + i.toNatClampNeg) v (o + j) else 0) := by
    rw [hv]
    funext j
    by_cases e : j = i.toNatClampNeg
    · subst e; rw [upd_eq, if_pos hlt, upd_eq]
    · rw [upd_ne e, upd_ne (by omega)]
  refine va_zast hC.2.1 hC.2.2.1 hK hS.1 hS.2.1 hV q0 0 he rfl hi hd (fun H1 locs1 hP1 hD1 hV1 => ?_)
  rw [hf, ← zcell_int (κ := κ) (φ := φ) (lk := lk) hk (Or.inr rfl)] at hP1 hD1
  exact h p l e R s m args below meth c H1 locs1 cells slots A D κ φ Z la hX hC hL (hS.sto hX hq0 hh v hP1 hD1) (hXt.sto hX (by omega) hh v) hV1 hA i1 (zins_tl (zins_tl (zins_tl i2))) h3 h4 h5 K
theorem zE_aald {o : Nat} {i : Int32} (hd : decode (zmB y) pc = .ok (.aaload, 1)) (hk : kd o = 11 ∨ kd o = 12) (hi : vp_in i (ln X o)) (h0 : lk (o + i.toNatClampNeg) = none → zE X d y (pc + 1) ls (.null :: st) mem lk L lkf Lf Q)
    (h1 : ∀ t, lk (o + i.toNatClampNeg) = some t → zE X d y (pc + 1) ls (.ref t :: st) mem lk L lkf Lf Q) : zE X d y pc ls (.int i :: .ref o :: st) mem lk L lkf Lf Q := by
  intro p l e R s m args below meth c H locs cells slots A D κ φ Z la hX hC hL hS hXt hV hA i1 i2 h3 h4 h5 K
  have hoL : o ∈ L := (zins_hd (zins_tl i2)).resolve_right (by omega)
  obtain ⟨q0, hq0⟩ := List.mem_iff_getElem?.mp hoL
  have he := zW_get (X := X) (κ := κ) (φ := φ) (mem := mem) (lk := lk) hq0
  rw [zcell_ref rfl hk] at he
  have hlt := vp_in_lt hi
  have hh : zhas X o i.toNatClampNeg := Or.inr ⟨by omega, by omega, hlt⟩
  obtain ⟨ty, hty, href⟩ : ∃ ty, zaty (kd o) = some ty ∧ ty.isReference = true := by
    rcases hk with e | e <;> rw [e]
    · exact ⟨_, rfl, rfl⟩
    · exact ⟨_, rfl, rfl⟩
  have hK := zK1 hS hoL hty
  have kk : W p l e R s m args below meth c H locs cells slots Z (F0 m (pc + 1) la (va_rf ((lk (o + i.toNatClampNeg)).map φ) :: st.map (ztr φ))) := by
    cases hl : lk (o + i.toNatClampNeg) with
    | none => exact h0 hl p l e R s m args below meth c H locs cells slots A D κ φ Z la hX hC hL hS hXt hV hA i1 (zins_cons trivial (zins_tl (zins_tl i2))) h3 h4 h5 K
    | some t => exact h1 t hl p l e R s m args below meth c H locs cells slots A D κ φ Z la hX hC hL hS hXt hV hA i1 (zins_cons (Or.inl (hS.2.2.2.2.2 o hoL _ hh t hl)) (zins_tl (zins_tl i2))) h3 h4 h5 K
  refine W.aald (v := va_rf ((lk (o + i.toNatClampNeg)).map φ)) (ty := ty) hC.2.1 hC.2.2.1 (hS.1 q0 _ he) ((hK.2 0 _ rfl).1 (ln X o) (fun j => va_rf (if j < ln X o then (lk (o + j)).map φ else none))) href (fun q => by cases q) (by show ¬ (i < 0 ∨ (arrV _ _ _).slots.size ≤ _); rw [arrV_size]; exact hi) (by show (arrV _ _ _).slots[_]? = _; rw [arrV_read _ _ hlt]; show some (va_rf (if i.toNatClampNeg < ln X o then (lk (o + i.toNatClampNeg)).map φ else none)) = _; rw [if_pos hlt]) rfl rfl hd kk
theorem zE_aast {o v : Nat} {i : Int32} (hd : decode (zmB y) pc = .ok (.aastore, 1)) (hk : kd o = 11) (hkv : kd v = 3) (hi : vp_in i (ln X o)) (h : zE X d y (pc + 1) ls st mem (va_up lk (o + i.toNatClampNeg) (some v)) L lkf Lf Q) : zE X d y pc ls (.ref v :: .int i :: .ref o :: st) mem lk L lkf Lf Q := by
  intro p l e R s m args below meth c H locs cells slots A D κ φ Z la hX hC hL hS hXt hV hA i1 i2 h3 h4 h5 K
  have hoL : o ∈ L := (zins_hd (zins_tl (zins_tl i2))).resolve_right (by omega)
  have hvL : v ∈ L := (zins_hd i2).resolve_right (by omega)
  obtain ⟨q0, hq0⟩ := List.mem_iff_getElem?.mp hoL
  obtain ⟨q1, hq1⟩ := List.mem_iff_getElem?.mp hvL
  have he := zW_get (X := X) (κ := κ) (φ := φ) (mem := mem) (lk := lk) hq0
  rw [zcell_ref hk (Or.inl rfl)] at he
  have he1 := zW_get (X := X) (κ := κ) (φ := φ) (mem := mem) (lk := lk) hq1
  rw [zcell_obj hkv (by omega)] at he1
  have hK := zK1 hS hoL (ty := .object "DishLift$House") (by rw [hk]; rfl)
  rw [hk] at hK
  have hlt := vp_in_lt hi
  have hh : zhas X o i.toNatClampNeg := Or.inr ⟨by omega, by omega, hlt⟩
  have hf : va_up (fun j => if j < ln X o then (lk (o + j)).map φ else none) i.toNatClampNeg (some (φ v)) = (fun j => if j < ln X o then (va_up lk (o + i.toNatClampNeg) (some v) (o + j)).map φ else none) := by
    funext j
    by_cases e : j = i.toNatClampNeg
    · subst e
      have e1 : va_up (fun j => if j < ln X o then (lk (o + j)).map φ else none) i.toNatClampNeg (some (φ v)) i.toNatClampNeg = some (φ v) := if_pos rfl
      have e2 : va_up lk (o + i.toNatClampNeg) (some v) (o + i.toNatClampNeg) = some v := if_pos rfl
      rw [e1, if_pos hlt, e2]; rfl
    · rw [va_up_ne _ _ e, va_up_ne _ _ (by omega)]
  refine va_astq (r := (RX3, TX3, 12)) hC.2.1 hC.2.2.1 hK hS.1 hS.2.1 hV q0 0 q1 3 he rfl he1 rfl hi hd (fun H1 locs1 hP1 hD1 hV1 => ?_)
  rw [hf, ← zcell_ref (κ := κ) (mem := mem) hk (Or.inl rfl)] at hP1 hD1
  exact h p l e R s m args below meth c H1 locs1 cells slots A D κ φ Z la hX hC hL (hS.stl hX hq0 hh hvL hP1 hD1) hXt hV1 hA i1 (zins_tl (zins_tl (zins_tl i2))) h3 h4 h5 K
theorem zE_alen {o : Nat} (hd : decode (zmB y) pc = .ok (.arraylength, 1)) (hk : 9 ≤ kd o ∧ kd o ≤ 13) (h : zE X d y (pc + 1) ls (.int (nI (ln X o)) :: st) mem lk L lkf Lf Q) : zE X d y pc ls (.ref o :: st) mem lk L lkf Lf Q := by
  intro p l e R s m args below meth c H locs cells slots A D κ φ Z la hX hC hL hS hXt hV hA i1 i2 h3 h4 h5 K
  have k1 := h p l e R s m args below meth c H locs cells slots A D κ φ Z la hX hC hL hS hXt hV hA i1 (zins_cons trivial (zins_tl i2)) h3 h4 h5 K
  by_cases h13 : kd o = 13
  · exact va_tlen hC.2.1 hC.2.2.1 (hXt.1 o h13) hV rfl hd k1
  · have hoL : o ∈ L := (zins_hd i2).resolve_right h13
    obtain ⟨q0, hq0⟩ := List.mem_iff_getElem?.mp hoL
    have he := zW_get (X := X) (κ := κ) (φ := φ) (mem := mem) (lk := lk) hq0
    obtain ⟨ty, hty⟩ : ∃ ty, zaty (kd o) = some ty := by
      rcases (show kd o = 9 ∨ kd o = 10 ∨ kd o = 11 ∨ kd o = 12 by omega) with e | e | e | e <;> rw [e] <;> exact ⟨_, rfl⟩
    have hK := zK1 hS hoL hty
    by_cases h11 : kd o < 11
    · rw [zcell_int rfl (by omega)] at he
      exact va_alen hC.2.1 hC.2.2.1 hK hS.1 q0 0 he rfl rfl hd k1
    · rw [zcell_ref rfl (by omega)] at he
      exact va_alen hC.2.1 hC.2.2.1 hK hS.1 q0 0 he rfl rfl hd k1
end ZH
