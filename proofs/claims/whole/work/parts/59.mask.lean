/-! the reference: ask -/
section MA
variable {X d : Nat} {mem : zMem} {lk : zLk} {L : List Nat} {Q : Option Value → zMem → Prop} {g : zH} {e : Nat} {l : List Nat}
theorem zML.t {lk : zLk} (h : zML lk) : lk 1017 = some 3880 := h.2.2.2.2.2.2.2.2.2.2
theorem ok_traces {x : Nat} (hd : 0 < d) (hk : zML lk) (hT : zTr mem 1018 3880 l) (q : ∀ mem', zTr mem' 1018 3880 (l ++ [x]) → zqfr 1018 3880 mem mem' → Q none mem') : zOk X d 206 [.ref 1000, .int (nI x)] mem lk L lk L Q := by
  have e1 : mem (1000 + 18) = nI (min 16 l.length) := hT.1
  refine zOk_do 40 (tbl := tX8_traces) zck_206 rfl (by omega) (h := ?_)
  refine ⟨rfl, fun c => ⟨rfl, rfl, ?_⟩, fun c => ?_⟩
  · have c : nI 16 ≤ mem (1000 + 18) := c
    rw [e1, nLe (by omega) (by omega)] at c
    exact q mem (hT.full (by omega)) zqfr.rf
  · have c : ¬ nI 16 ≤ mem (1000 + 18) := c
    rw [e1, nLe (by omega) (by omega)] at c
    have hl : l.length < 16 := by omega
    have em : min 16 l.length = l.length := by omega
    rw [em] at e1
    have ea : 3880 + (mem (1000 + 18)).toNatClampNeg = 3880 + l.length := by rw [e1, nC (by omega)]
    refine ⟨rfl, _, hk.t, rfl, rfl, ?_, rfl, rfl, rfl, rfl, ?_⟩
    · rw [e1]; exact vp_in_nI (show l.length < 16 from hl) (by show 16 < 2 ^ 31; decide)
    · show Q none (upd (upd mem (3880 + (mem (1000 + 18)).toNatClampNeg) (nI x)) (1000 + 18) (upd mem (3880 + (mem (1000 + 18)).toNatClampNeg) (nI x) (1000 + 18) + nI 1))
      rw [ea]
      refine q _ (hT.add hl ?_ ?_ (fun i hi => ?_)) (fun y h1 h2 => ?_)
      · show upd _ 1018 _ 1018 = _
        rw [upd_eq, upd_ne (by omega)]
        show mem (1000 + 18) + nI 1 = _
        rw [e1, nI_add]
      · rw [upd_ne (by omega), upd_eq]
      · rw [upd_ne (by omega), upd_ne (by omega)]
      · rw [upd_ne (by omega), upd_ne (by omega)]
theorem zHB.q {m1 m2 : zMem} (hb : zHB m1 2000 g) (h6 : g 0 ≤ 6) (f : zqfr 1018 3880 m1 m2) : zHB m2 2000 g := hb.same h6 (fun j hj => f _ (by omega) (by omega))
theorem ok_size10 (hd : 1 < d) (hk : zML lk) (hb : zHB mem 2000 g) (h6 : g 0 ≤ 6) (he : e < g 0) (hT : zTr mem 1018 3880 l) (q : ∀ mem', zTr mem' 1018 3880 (l ++ [10]) → zqfr 1018 3880 mem mem' → Q (some (.int (nI (g (25 + e))))) mem') : zOk X d 207 [.ref 1000, .int (nI e)] mem lk L lk L Q := by
  refine zOk_do 40 (tbl := tX8_size10) zck_207 rfl (by omega) (h := ?_)
  refine ⟨rfl, ok_traces (by omega) hk hT (fun m1 hT1 f1 => ⟨rfl, _, hk.1, Or.inl rfl, zwi1 (by omega), rfl, rfl, ?_⟩)⟩
  have ew : m1 (2000 + (nI 25 + nI e).toNatClampNeg) = nI (g (25 + e)) := by rw [zw1 (by omega), show 2000 + (25 + e) = 2000 + 25 + e by omega]; exact (hb.q h6 f1).wt he
  have p := q m1 hT1 f1
  rw [← ew] at p
  exact p
theorem ok_mark20 (hd : 1 < d) (hk : zML lk) (hT : zTr mem 1018 3880 l) (q : ∀ mem', zTr mem' 1018 3880 (l ++ [20]) → zqfr 1018 3880 mem mem' → Q (some (.int (nI e))) mem') : zOk X d 211 [.ref 1000, .int (nI e)] mem lk L lk L Q := by
  refine zOk_do 40 (tbl := tX8_mark20) zck_211 rfl (by omega) (h := ?_)
  exact ⟨rfl, ok_traces (by omega) hk hT (fun m1 hT1 f1 => ⟨rfl, rfl, q m1 hT1 f1⟩)⟩
theorem ok_mark21 (hd : 2 < d) (hk : zML lk) (hb : zHB mem 2000 g) (h6 : g 0 ≤ 6) (he : e < g 0) (hT : zTr mem 1018 3880 l) (q : ∀ mem', zTr mem' 1018 3880 (l ++ [21, 20]) → zqfr 1018 3880 mem mem' → Q (some (.int (nI e + nI (g (31 + e))))) mem') : zOk X d 212 [.ref 1000, .int (nI e)] mem lk L lk L Q := by
  refine zOk_do 40 (tbl := tX8_mark21) zck_212 rfl (by omega) (h := ?_)
  refine ⟨rfl, ok_traces (by omega) hk hT (fun m1 hT1 f1 => ⟨rfl, ok_mark20 (by omega) hk hT1 (fun m2 hT2 f2 => ⟨rfl, _, hk.1, Or.inl rfl, zwi1 (by omega), rfl, rfl, ?_⟩)⟩)⟩
  have ew : m2 (2000 + (nI 31 + nI e).toNatClampNeg) = nI (g (31 + e)) := by rw [zw1 (by omega), show 2000 + (31 + e) = 2000 + 31 + e by omega]; exact (hb.q h6 (f1.tr f2)).ht he
  have p := q m2 (zTr_eq hT2 (List.append_assoc _ _ _)) (f1.tr f2)
  rw [← ew] at p
  exact p
theorem ok_size13 (hd : 2 < d) (hk : zML lk) (hb : zHB mem 2000 g) (h6 : g 0 ≤ 6) (he : e < g 0) (hT : zTr mem 1018 3880 l) (q : ∀ mem', zTr mem' 1018 3880 (l ++ [13, 10]) → zqfr 1018 3880 mem mem' → Q (some (.int (nI (g (25 + e)) - nI 100))) mem') : zOk X d 209 [.ref 1000, .int (nI e)] mem lk L lk L Q := by
  refine zOk_do 40 (tbl := tX8_size13) zck_209 rfl (by omega) (h := ?_)
  exact ⟨rfl, ok_traces (by omega) hk hT (fun m1 hT1 f1 => ⟨rfl, ok_size10 (by omega) hk (hb.q h6 f1) h6 he hT1 (fun m2 hT2 f2 => ⟨rfl, rfl, q m2 (zTr_eq hT2 (List.append_assoc _ _ _)) (f1.tr f2)⟩)⟩)⟩
def zmkV (g : zH) (e : Nat) : Int32 := if g (7 + e) = 2 then nI 2 * (nI e + nI (g (31 + e))) else if g (7 + e) = 3 then nI e + nI (g (31 + e)) - nI 1000 else nI e + nI (g (31 + e))
def zmkT (g : zH) (e : Nat) : List Nat := if g (7 + e) = 2 then [24, 21, 20] else if g (7 + e) = 3 then [22, 21, 20] else [21, 20]
theorem ok_markOf (hd : 3 < d) (hk : zML lk) (hb : zHB mem 2000 g) (wf : zWF g) (he : e < g 0) (hT : zTr mem 1018 3880 l) (q : ∀ mem', zTr mem' 1018 3880 (l ++ zmkT g e) → zqfr 1018 3880 mem mem' → Q (some (.int (zmkV g e))) mem') : zOk X d 213 [.ref 1000, .int (nI e)] mem lk L lk L Q := by
  have h6 := wf.1
  have hk5 := (wf.2.2.2.2.2.2.2.2 e he).1
  have ek : mem (2000 + (nI 7 + nI e).toNatClampNeg) = nI (g (7 + e)) := by rw [zw1 (by omega), show 2000 + (7 + e) = 2000 + 7 + e by omega]; exact hb.kind he
  unfold zmkV zmkT at q
  refine zOk_do 60 (tbl := tX8_markOf) zck_213 rfl (by omega) (h := ?_)
  refine ⟨rfl, _, hk.1, Or.inl rfl, zwi1 (by omega), fun c => ?_, fun c2 => ⟨fun c => ?_, fun c3 => ?_⟩⟩
  · have c : mem (2000 + (nI 7 + nI e).toNatClampNeg) = nI 2 := c
    rw [ek, nEq (by omega) (by omega)] at c
    rw [if_pos c, if_pos c] at q
    exact ⟨rfl, ok_traces (by omega) hk hT (fun m1 hT1 f1 => ⟨rfl, ok_mark21 (by omega) hk (hb.q h6 f1) h6 he hT1 (fun m2 hT2 f2 => ⟨rfl, rfl, q m2 (zTr_eq hT2 (List.append_assoc _ _ _)) (f1.tr f2)⟩)⟩)⟩
  · have c2 : ¬ mem (2000 + (nI 7 + nI e).toNatClampNeg) = nI 2 := c2
    have c : mem (2000 + (nI 7 + nI e).toNatClampNeg) = nI 3 := c
    rw [ek, nEq (by omega) (by omega)] at c c2
    rw [if_neg c2, if_pos c, if_neg c2, if_pos c] at q
    exact ⟨rfl, ok_traces (by omega) hk hT (fun m1 hT1 f1 => ⟨rfl, ok_mark21 (by omega) hk (hb.q h6 f1) h6 he hT1 (fun m2 hT2 f2 => ⟨rfl, rfl, q m2 (zTr_eq hT2 (List.append_assoc _ _ _)) (f1.tr f2)⟩)⟩)⟩
  · have c2 : ¬ mem (2000 + (nI 7 + nI e).toNatClampNeg) = nI 2 := c2
    have c3 : ¬ mem (2000 + (nI 7 + nI e).toNatClampNeg) = nI 3 := c3
    rw [ek, nEq (by omega) (by omega)] at c3 c2
    rw [if_neg c2, if_neg c3, if_neg c2, if_neg c3] at q
    exact ⟨rfl, ok_mark21 (by omega) hk hb h6 he hT (fun m2 hT2 f2 => ⟨rfl, rfl, q m2 hT2 f2⟩)⟩
theorem ok_size11 (hd : 4 < d) (hk : zML lk) (hb : zHB mem 2000 g) (wf : zWF g) (he : e < g 0) (hT : zTr mem 1018 3880 l) (q : ∀ mem', zTr mem' 1018 3880 (l ++ 11 :: 10 :: zmkT g e) → zqfr 1018 3880 mem mem' → Q (some (.int (nI (g (25 + e)) + zmkV g e))) mem') : zOk X d 208 [.ref 1000, .int (nI e)] mem lk L lk L Q := by
  have h6 := wf.1
  refine zOk_do 40 (tbl := tX8_size11) zck_208 rfl (by omega) (h := ?_)
  exact ⟨rfl, ok_traces (by omega) hk hT (fun m1 hT1 f1 => ⟨rfl, ok_size10 (by omega) hk (hb.q h6 f1) h6 he hT1 (fun m2 hT2 f2 => ⟨rfl, ok_markOf (by omega) hk (hb.q h6 (f1.tr f2)) wf he hT2 (fun m3 hT3 f3 => ⟨rfl, rfl, q m3 (zTr_eq hT3 (by rw [List.append_assoc, List.append_assoc]; rfl)) ((f1.tr f2).tr f3)⟩)⟩)⟩)⟩
def zszV (g : zH) (e : Nat) : Int32 := if g (7 + e) = 2 then -(nI (g (25 + e)) + zmkV g e) else if g (7 + e) = 4 then nI (g (25 + e)) - nI 100 else if g (7 + e) = 5 then nI 2 * (nI (g (25 + e)) - nI 100) else nI (g (25 + e)) + zmkV g e
def zszT (g : zH) (e : Nat) : List Nat := if g (7 + e) = 2 then 12 :: 11 :: 10 :: zmkT g e else if g (7 + e) = 4 then [13, 10] else if g (7 + e) = 5 then [14, 13, 10] else 11 :: 10 :: zmkT g e
theorem ok_sizeOf (hd : 5 < d) (hk : zML lk) (hb : zHB mem 2000 g) (wf : zWF g) (he : e < g 0) (hT : zTr mem 1018 3880 l) (q : ∀ mem', zTr mem' 1018 3880 (l ++ zszT g e) → zqfr 1018 3880 mem mem' → Q (some (.int (zszV g e))) mem') : zOk X d 210 [.ref 1000, .int (nI e)] mem lk L lk L Q := by
  have h6 := wf.1
  have hk5 := (wf.2.2.2.2.2.2.2.2 e he).1
  have ek : mem (2000 + (nI 7 + nI e).toNatClampNeg) = nI (g (7 + e)) := by rw [zw1 (by omega), show 2000 + (7 + e) = 2000 + 7 + e by omega]; exact hb.kind he
  have nk : ∀ j, j ≤ 5 → (mem (2000 + (nI 7 + nI e).toNatClampNeg) = nI j ↔ g (7 + e) = j) := fun j hj => by rw [ek, nEq (by omega) (by omega)]
  unfold zszV zszT at q
  refine zOk_do 60 (tbl := tX8_sizeOf) zck_210 rfl (by omega) (h := ?_)
  refine ⟨rfl, _, hk.1, Or.inl rfl, zwi1 (by omega), fun c => ?_, fun c2 => ⟨fun c => ?_, fun c3 => ⟨fun c => ?_, fun c4 => ⟨fun c => ?_, fun c5 => ?_⟩⟩⟩⟩
  · have c := (nk 2 (by omega)).mp c
    rw [if_pos c, if_pos c] at q
    exact ⟨rfl, ok_traces (by omega) hk hT (fun m1 hT1 f1 => ⟨rfl, ok_size11 (by omega) hk (hb.q h6 f1) wf he hT1 (fun m2 hT2 f2 => ⟨rfl, rfl, q m2 (zTr_eq hT2 (List.append_assoc _ _ _)) (f1.tr f2)⟩)⟩)⟩
  · have c := (nk 3 (by omega)).mp c
    rw [if_neg (by omega), if_neg (by omega), if_neg (by omega), if_neg (by omega), if_neg (by omega), if_neg (by omega)] at q
    exact ⟨rfl, ok_size11 (by omega) hk hb wf he hT (fun m2 hT2 f2 => ⟨rfl, rfl, q m2 hT2 f2⟩)⟩
  · have c := (nk 4 (by omega)).mp c
    rw [if_neg (by omega), if_pos c, if_neg (by omega), if_pos c] at q
    exact ⟨rfl, ok_size13 (by omega) hk hb h6 he hT (fun m2 hT2 f2 => ⟨rfl, rfl, q m2 hT2 f2⟩)⟩
  · have c := (nk 5 (by omega)).mp c
    rw [if_neg (by omega), if_neg (by omega), if_pos c, if_neg (by omega), if_neg (by omega), if_pos c] at q
    exact ⟨rfl, ok_traces (by omega) hk hT (fun m1 hT1 f1 => ⟨rfl, ok_size13 (by omega) hk (hb.q h6 f1) h6 he hT1 (fun m2 hT2 f2 => ⟨rfl, rfl, q m2 (zTr_eq hT2 (List.append_assoc _ _ _)) (f1.tr f2)⟩)⟩)⟩
  · have d2 := fun z => c2 ((nk 2 (by omega)).mpr z)
    have d4 := fun z => c4 ((nk 4 (by omega)).mpr z)
    have d5 := fun z => c5 ((nk 5 (by omega)).mpr z)
    rw [if_neg d2, if_neg d4, if_neg d5, if_neg d2, if_neg d4, if_neg d5] at q
    exact ⟨rfl, ok_size11 (by omega) hk hb wf he hT (fun m2 hT2 f2 => ⟨rfl, rfl, q m2 hT2 f2⟩)⟩
theorem ok_mark23 (hd : 6 < d) (hk : zML lk) (hb : zHB mem 2000 g) (wf : zWF g) (he : e < g 0) (hT : zTr mem 1018 3880 l) (q : ∀ mem', zTr mem' 1018 3880 (l ++ 23 :: 20 :: zszT g e) → zqfr 1018 3880 mem mem' → Q (some (.int (nI e - zszV g e))) mem') : zOk X d 214 [.ref 1000, .int (nI e)] mem lk L lk L Q := by
  have h6 := wf.1
  refine zOk_do 40 (tbl := tX8_mark23) zck_214 rfl (by omega) (h := ?_)
  exact ⟨rfl, ok_traces (by omega) hk hT (fun m1 hT1 f1 => ⟨rfl, ok_mark20 (by omega) hk hT1 (fun m2 hT2 f2 => ⟨rfl, ok_sizeOf (by omega) hk (hb.q h6 (f1.tr f2)) wf he hT2 (fun m3 hT3 f3 => ⟨rfl, rfl, q m3 (zTr_eq hT3 (by rw [List.append_assoc, List.append_assoc]; rfl)) ((f1.tr f2).tr f3)⟩)⟩)⟩)⟩
/-- both sides say the same -/
theorem zbv_10 (g : zH) (e f : Nat) : zbv g e (f + 1) 10 = nI (g (25 + e)) ∧ zbt g e (f + 1) 10 = [10] := ⟨rfl, rfl⟩
theorem zbv_20 (g : zH) (e f : Nat) : zbv g e (f + 1) 20 = nI e ∧ zbt g e (f + 1) 20 = [20] := ⟨rfl, rfl⟩
theorem zbv_21 (g : zH) (e f : Nat) : zbv g e (f + 2) 21 = nI e + nI (g (31 + e)) ∧ zbt g e (f + 2) 21 = [21, 20] := ⟨rfl, rfl⟩
theorem zbv_22 (g : zH) (e f : Nat) : zbv g e (f + 3) 22 = nI e + nI (g (31 + e)) - nI 1000 ∧ zbt g e (f + 3) 22 = [22, 21, 20] := ⟨rfl, rfl⟩
theorem zbv_24 (g : zH) (e f : Nat) : zbv g e (f + 3) 24 = nI 2 * (nI e + nI (g (31 + e))) ∧ zbt g e (f + 3) 24 = [24, 21, 20] := ⟨rfl, rfl⟩
theorem zbv_13 (g : zH) (e f : Nat) : zbv g e (f + 2) 13 = nI (g (25 + e)) - nI 100 ∧ zbt g e (f + 2) 13 = [13, 10] := ⟨rfl, rfl⟩
theorem zbv_14 (g : zH) (e f : Nat) : zbv g e (f + 3) 14 = nI 2 * (nI (g (25 + e)) - nI 100) ∧ zbt g e (f + 3) 14 = [14, 13, 10] := ⟨rfl, rfl⟩
theorem zbv_11 (g : zH) (e f : Nat) : zbv g e (f + 1) 11 = zbv g e f 10 + zbv g e f (zbf (g (7 + e)) 1) ∧ zbt g e (f + 1) 11 = 11 :: (zbt g e f 10 ++ zbt g e f (zbf (g (7 + e)) 1)) := ⟨rfl, rfl⟩
theorem zbv_12 (g : zH) (e f : Nat) : zbv g e (f + 1) 12 = -(zbv g e f 11) ∧ zbt g e (f + 1) 12 = 12 :: zbt g e f 11 := ⟨rfl, rfl⟩
theorem zbv_23 (g : zH) (e f : Nat) : zbv g e (f + 1) 23 = zbv g e f 20 - zbv g e f (zbf (g (7 + e)) 0) ∧ zbt g e (f + 1) 23 = 23 :: (zbt g e f 20 ++ zbt g e f (zbf (g (7 + e)) 0)) := ⟨rfl, rfl⟩
theorem zsz_eq (g : zH) (e f k : Nat) (hk : g (7 + e) = k) (h : 1 ≤ k ∧ k ≤ 5) : zbv g e (f + 5) (zbf k 0) = zszV g e ∧ zbt g e (f + 5) (zbf k 0) = zszT g e := by
  unfold zszV zszT zmkV zmkT
  rw [hk]
  rcases (by omega : k = 1 ∨ k = 2 ∨ k = 3 ∨ k = 4 ∨ k = 5) with z | z | z | z | z <;> subst z
  · obtain ⟨a, b⟩ := zbv_11 g e (f + 4)
    rw [hk, show zbf 1 1 = 21 from rfl, (zbv_10 g e (f + 3)).1, (zbv_21 g e (f + 2)).1] at a
    rw [hk, show zbf 1 1 = 21 from rfl, (zbv_10 g e (f + 3)).2, (zbv_21 g e (f + 2)).2] at b
    exact ⟨a, b⟩
  · obtain ⟨a, b⟩ := zbv_12 g e (f + 4)
    obtain ⟨a1, b1⟩ := zbv_11 g e (f + 3)
    rw [hk, show zbf 2 1 = 24 from rfl, (zbv_10 g e (f + 2)).1, (zbv_24 g e f).1] at a1
    rw [hk, show zbf 2 1 = 24 from rfl, (zbv_10 g e (f + 2)).2, (zbv_24 g e f).2] at b1
    rw [a1] at a
    rw [b1] at b
    exact ⟨a, b⟩
  · obtain ⟨a, b⟩ := zbv_11 g e (f + 4)
    rw [hk, show zbf 3 1 = 22 from rfl, (zbv_10 g e (f + 3)).1, (zbv_22 g e (f + 1)).1] at a
    rw [hk, show zbf 3 1 = 22 from rfl, (zbv_10 g e (f + 3)).2, (zbv_22 g e (f + 1)).2] at b
    exact ⟨a, b⟩
  · exact zbv_13 g e (f + 3)
  · exact zbv_14 g e (f + 2)
theorem zmk_eq (g : zH) (e f k : Nat) (hk : g (7 + e) = k) (h : 1 ≤ k ∧ k ≤ 5) : zbv g e (f + 5) (zbf k 1) = (if 4 ≤ k then nI e - zszV g e else zmkV g e) ∧ zbt g e (f + 5) (zbf k 1) = (if 4 ≤ k then 23 :: 20 :: zszT g e else zmkT g e) := by
  unfold zszV zszT zmkV zmkT
  rw [hk]
  rcases (by omega : k = 1 ∨ k = 2 ∨ k = 3 ∨ k = 4 ∨ k = 5) with z | z | z | z | z <;> subst z
  · exact zbv_21 g e (f + 3)
  · exact zbv_24 g e (f + 2)
  · exact zbv_22 g e (f + 2)
  · obtain ⟨a, b⟩ := zbv_23 g e (f + 4)
    rw [hk, show zbf 4 0 = 13 from rfl, (zbv_20 g e (f + 3)).1, (zbv_13 g e (f + 2)).1] at a
    rw [hk, show zbf 4 0 = 13 from rfl, (zbv_20 g e (f + 3)).2, (zbv_13 g e (f + 2)).2] at b
    exact ⟨a, b⟩
  · obtain ⟨a, b⟩ := zbv_23 g e (f + 4)
    rw [hk, show zbf 5 0 = 14 from rfl, (zbv_20 g e (f + 3)).1, (zbv_14 g e (f + 1)).1] at a
    rw [hk, show zbf 5 0 = 14 from rfl, (zbv_20 g e (f + 3)).2, (zbv_14 g e (f + 1)).2] at b
    exact ⟨a, b⟩
theorem ok_mask {x y : Int32} (hd : 8 < d) (hk : zML lk) (hb : zHB mem 2000 g) (hN : zNow g)
    (qB : ((x.toInt < 0 ∨ (g 0 : Int) ≤ x.toInt) ∨ (y.toInt < 0 ∨ 1 < y.toInt)) → Q (some (.int (-(nI 1000001)))) mem)
    (q : ∀ e w, e < g 0 → x = nI e → y = nI w → w ≤ 1 → ∀ mem', zTr mem' 1018 3880 (zbt g e 17 (zbf (g (7 + e)) w)) → zqfr 1018 3880 mem mem' → Q (some (.int (zbv g e 17 (zbf (g (7 + e)) w)))) mem') : zOk X d 215 [.ref 1000, .int x, .int y] mem lk L lk L Q := by
  refine zOk_do 80 (tbl := tX8_ask) zck_215 rfl (by omega) (h := ?_)
  refine ⟨rfl, ok_misDish (by omega) hk.1 hb hN.le.1 (fun e he ex => zT_eq ?_) (fun c => zF_eq ⟨rfl, rfl, qB (Or.inl c)⟩)⟩
  refine ok_min (a := 0) (b := 1) (by omega) (by omega) (by omega) (fun c => zF_ne ⟨rfl, rfl, qB (Or.inr (by omega))⟩) (fun w h1 h2 ey => zT_ne ⟨rfl, ?_⟩)
  have p := q e w he ex ey h2
  subst ex ey
  have wf := (hN.wf (by omega)).1
  have h6 := wf.1
  have hk5 := (wf.2.2.2.2.2.2.2.2 e he).1
  have f1 : zqfr 1018 3880 mem (upd mem (1000 + 18) (nI 0)) := zqfr.up
  have hb1 := hb.q h6 f1
  have ek : upd mem (1000 + 18) (nI 0) (2000 + (nI 7 + nI e).toNatClampNeg) = nI (g (7 + e)) := by rw [zw1 (by omega), show 2000 + (7 + e) = 2000 + 7 + e by omega]; exact hb1.kind he
  have hs : zbv g e 17 (zbf (g (7 + e)) 0) = zszV g e ∧ zbt g e 17 (zbf (g (7 + e)) 0) = zszT g e := zsz_eq g e 12 _ rfl hk5
  have hm : zbv g e 17 (zbf (g (7 + e)) 1) = (if 4 ≤ g (7 + e) then nI e - zszV g e else zmkV g e) ∧ zbt g e 17 (zbf (g (7 + e)) 1) = (if 4 ≤ g (7 + e) then 23 :: 20 :: zszT g e else zmkT g e) := zmk_eq g e 12 _ rfl hk5
  refine ⟨fun c => ⟨rfl, _, hk.1, Or.inl rfl, zwi1 (by omega), fun c2 => ?_, fun c2 => ?_⟩, fun c => ?_⟩
  · have c : ¬ nI w = 0 := c
    have c2 : upd mem (1000 + 18) (nI 0) (2000 + (nI 7 + nI e).toNatClampNeg) < nI 4 := c2
    rw [n0 (by omega)] at c
    rw [ek, nLt (by omega) (by omega)] at c2
    rw [show w = 1 by omega, hm.1, hm.2, if_neg (by omega), if_neg (by omega)] at p
    exact ⟨rfl, ok_markOf (l := []) (by omega) hk hb1 wf he zTr_0 (fun m2 hT2 f2 => ⟨rfl, rfl, p m2 hT2 (f1.tr f2)⟩)⟩
  · have c : ¬ nI w = 0 := c
    have c2 : ¬ upd mem (1000 + 18) (nI 0) (2000 + (nI 7 + nI e).toNatClampNeg) < nI 4 := c2
    rw [n0 (by omega)] at c
    rw [ek, nLt (by omega) (by omega)] at c2
    rw [show w = 1 by omega, hm.1, hm.2, if_pos (by omega), if_pos (by omega)] at p
    exact ⟨rfl, ok_mark23 (l := []) (by omega) hk hb1 wf he zTr_0 (fun m2 hT2 f2 => ⟨rfl, rfl, p m2 hT2 (f1.tr f2)⟩)⟩
  · have c : nI w = 0 := c
    rw [n0 (by omega)] at c
    rw [c, hs.1, hs.2] at p
    exact ⟨rfl, ok_sizeOf (l := []) (by omega) hk hb1 wf he zTr_0 (fun m2 hT2 f2 => ⟨rfl, rfl, p m2 hT2 (f1.tr f2)⟩)⟩
end MA
