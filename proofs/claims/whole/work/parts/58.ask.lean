/-! ask -/
/-- the trace: the first 16 of l -/
def zTr (mem : zMem) (c b : Nat) (l : List Nat) : Prop := mem c = nI (min 16 l.length) ∧ ∀ i, i < 16 → i < l.length → mem (b + i) = nI (l.getD i 0)
def zbf (k w : Nat) : Nat := if w = 0 then zSB.getD k 0 else zMBo.getD k 0
def zbv (g : zH) (e : Nat) : Nat → Nat → Int32
  | 0, _ => nI 0
  | f + 1, b => if b = 10 then nI (g (25 + e)) else if b = 11 then zbv g e f 10 + zbv g e f (zbf (g (7 + e)) 1) else if b = 12 then -(zbv g e f 11) else if b = 13 then zbv g e f 10 - nI 100 else if b = 14 then nI 2 * zbv g e f 13
    else if b = 20 then nI e else if b = 21 then zbv g e f 20 + nI (g (31 + e)) else if b = 22 then zbv g e f 21 - nI 1000 else if b = 23 then zbv g e f 20 - zbv g e f (zbf (g (7 + e)) 0) else if b = 24 then nI 2 * zbv g e f 21 else nI 0
def zbt (g : zH) (e : Nat) : Nat → Nat → List Nat
  | 0, _ => []
  | f + 1, b => b :: (if b = 10 then [] else if b = 11 then zbt g e f 10 ++ zbt g e f (zbf (g (7 + e)) 1) else if b = 12 then zbt g e f 11 else if b = 13 then zbt g e f 10 else if b = 14 then zbt g e f 13
    else if b = 20 then [] else if b = 21 then zbt g e f 20 else if b = 22 then zbt g e f 21 else if b = 23 then zbt g e f 20 ++ zbt g e f (zbf (g (7 + e)) 0) else if b = 24 then zbt g e f 21 else [])
theorem zbf_le : ∀ k, k ≤ 5 → ∀ w, w ≤ 1 → zbf k w ≤ 24 := by decide
def zqfr (c b : Nat) (mem mem' : zMem) : Prop := ∀ x, x ≠ c → ¬ (b ≤ x ∧ x < b + 16) → mem' x = mem x
theorem zqfr.rf {c b : Nat} {mem : zMem} : zqfr c b mem mem := fun _ _ _ => rfl
theorem zqfr.tr {c b : Nat} {m1 m2 m3 : zMem} (h : zqfr c b m1 m2) (h' : zqfr c b m2 m3) : zqfr c b m1 m3 := fun x a y => (h' x a y).trans (h x a y)
theorem zgetD_app {l : List Nat} {x i : Nat} (h : i < l.length) : (l ++ [x]).getD i 0 = l.getD i 0 := by
  simp [List.getD, List.getElem?_append_left h]
theorem zgetD_end {l : List Nat} {x : Nat} : (l ++ [x]).getD l.length 0 = x := by simp [List.getD]
theorem zTr.full {mem : zMem} {c b x : Nat} {l : List Nat} (h : zTr mem c b l) (hl : 16 ≤ l.length) : zTr mem c b (l ++ [x]) := by
  refine ⟨?_, fun i hi _ => ?_⟩
  · rw [h.1, List.length_append, show min 16 l.length = 16 by omega, show min 16 (l.length + [x].length) = 16 by omega]
  · rw [zgetD_app (by omega)]; exact h.2 i hi (by omega)
theorem zTr.add {mem mem' : zMem} {c b x : Nat} {l : List Nat} (h : zTr mem c b l) (hl : l.length < 16) (h1 : mem' c = nI (l.length + 1)) (h2 : mem' (b + l.length) = nI x) (h3 : ∀ i, i < l.length → mem' (b + i) = mem (b + i)) : zTr mem' c b (l ++ [x]) := by
  refine ⟨?_, fun i hi hi2 => ?_⟩
  · rw [h1, List.length_append, show min 16 (l.length + [x].length) = l.length + 1 by simp; omega]
  · rw [List.length_append] at hi2
    have hi2 : i < l.length + 1 := hi2
    by_cases z : i = l.length
    · subst z; rw [zgetD_end]; exact h2
    · rw [zgetD_app (by omega), h3 i (by omega)]; exact h.2 i hi (by omega)
section AS
variable {X d : Nat} {mem : zMem} {lk : zLk} {L : List Nat} {Q : Option Value → zMem → Prop} {g : zH}
theorem ok_leave {x : Nat} {l : List Nat} (hd : 0 < d) (hk : zKs lk) (hT : zTr mem 771 780 l) (q : ∀ mem', zTr mem' 771 780 (l ++ [x]) → zqfr 771 780 mem mem' → Q none mem') : zOk X d 11 [.ref 770, .int (nI x)] mem lk L lk L Q := by
  have e1 : mem (770 + 1) = nI (min 16 l.length) := hT.1
  refine zOk_do 40 (tbl := tX1_leave) zck_11 rfl (by omega) (h := ?_)
  refine ⟨rfl, fun c => ⟨rfl, rfl, ?_⟩, fun c => ?_⟩
  · have c : nI 16 ≤ mem (770 + 1) := c
    rw [e1, nLe (by omega) (by omega)] at c
    exact q mem (hT.full (by omega)) zqfr.rf
  · have c : ¬ nI 16 ≤ mem (770 + 1) := c
    rw [e1, nLe (by omega) (by omega)] at c
    have hl : l.length < 16 := by omega
    have em : min 16 l.length = l.length := by omega
    rw [em] at e1
    have ea : 780 + (mem (770 + 1)).toNatClampNeg = 780 + l.length := by rw [e1, nC (by omega)]
    refine ⟨rfl, _, hk.at 770 780, rfl, rfl, ?_, rfl, rfl, rfl, rfl, ?_⟩
    · rw [e1]; exact vp_in_nI (show l.length < 16 from hl) (by show 16 < 2 ^ 31; decide)
    · show Q none (upd (upd mem (780 + (mem (770 + 1)).toNatClampNeg) (nI x)) (770 + 1) (upd mem (780 + (mem (770 + 1)).toNatClampNeg) (nI x) (770 + 1) + nI 1))
      rw [ea]
      refine q _ (hT.add hl ?_ ?_ (fun i hi => ?_)) (fun y h1 h2 => ?_)
      · show upd _ 771 _ 771 = _
        rw [upd_eq, upd_ne (by omega)]
        show mem (770 + 1) + nI 1 = _
        rw [e1, nI_add]
      · rw [upd_ne (by omega), upd_eq]
      · rw [upd_ne (by omega), upd_ne (by omega)]
      · rw [upd_ne (by omega), upd_ne (by omega)]
theorem ok_bodyFor {e w : Nat} (hd : 1 < d) (hh : zHo lk 10000) (hb : zHB mem 10000 g) (wf : zWF g) (he : e < g 0) (hS : zSt mem) (hw : w ≤ 1) (q : Q (some (.int (nI (zbf (g (7 + e)) w)))) mem) : zOk X d 9 [.ref 10000, .int (nI e), .int (nI w)] mem lk L lk L Q := by
  have w0 := wf.1
  have hk5 := (wf.2.2.2.2.2.2.2.2 e he).1
  have ek : mem (10000 + (7 + 6 * 0) + (nI e).toNatClampNeg) = nI (g (7 + e)) := by rw [nC (by omega)]; exact hb.kind he
  have e2 : mem (4020 + (nI (g (7 + e))).toNatClampNeg) = nI (zSB.getD (g (7 + e)) 0) := by rw [nC (by omega)]; exact hS.2.2.1 _ (by omega)
  have e3 : mem (4030 + (nI (g (7 + e))).toNatClampNeg) = nI (zMBo.getD (g (7 + e)) 0) := by rw [nC (by omega)]; exact hS.2.2.2 _ (by omega)
  unfold zbf at q
  refine zOk_do 40 (tbl := tX1_bodyFor) zck_9 rfl (by omega) (h := ?_)
  refine ⟨hh.k3, _, hh.lk 0 (by omega), Or.inl (hh.ka 0 (by omega)), hh.inn (by omega), ?_⟩
  rw [ek]
  refine ok_isKind (by omega) (by omega) (zT_ne ⟨fun c => ⟨Or.inr rfl, vp_in_nI (show g (7 + e) < 6 by omega) (by show 6 < 2 ^ 31; decide), rfl, rfl, ?_⟩, fun c => ⟨Or.inr rfl, vp_in_nI (show g (7 + e) < 6 by omega) (by show 6 < 2 ^ 31; decide), rfl, rfl, ?_⟩⟩)
  · have c : ¬ nI w = 0 := c
    rw [n0 (by omega)] at c
    rw [if_neg c, ← e3] at q
    exact q
  · have c : nI w = 0 := c
    rw [n0 (by omega)] at c
    rw [if_pos c, ← e2] at q
    exact q
theorem zT3.same {mem mem' : zMem} (hS : zSt mem) (h : zqfr 771 780 mem mem') : zSt mem' :=
  ⟨fun i hi => by rw [h _ (by omega) (by omega)]; exact hS.1 i hi, fun i hi => by rw [h _ (by omega) (by omega)]; exact hS.2.1 i hi, fun i hi => by rw [h _ (by omega) (by omega)]; exact hS.2.2.1 i hi, fun i hi => by rw [h _ (by omega) (by omega)]; exact hS.2.2.2 i hi⟩
theorem zTr_eq {mem : zMem} {c b : Nat} {l l' : List Nat} (h : zTr mem c b l) (e : l = l') : zTr mem c b l' := e ▸ h
theorem ok_abegin {e : Nat} (hk : zKs lk) (hh : zHo lk 10000) (wf : zWF g) (he : e < g 0) : ∀ f k b l mem (d : Nat) (Q : Option Value → zMem → Prop), f + k = 17 → f + 3 < d → b ≤ 24 → zHB mem 10000 g → zSt mem → zTr mem 771 780 l → (∀ mem', zTr mem' 771 780 (l ++ zbt g e f b) → zqfr 771 780 mem mem' → Q (some (.int (zbv g e f b))) mem') → zOk X d 10 [.ref 770, .ref 10000, .int (nI b), .int (nI e), .int (nI k)] mem lk L lk L Q := by
  have w0 := wf.1
  have hk5 := (wf.2.2.2.2.2.2.2.2 e he).1
  have hz0 := zbf_le (g (7 + e)) (by omega) 0 (by omega)
  have hz1 := zbf_le (g (7 + e)) (by omega) 1 (by omega)
  intro f
  induction f with
  | zero =>
    intro k b l mem d Q hfk hd hb24 hb hS hT q
    have c1 : ¬ nI k ≤ nI 16 := by rw [nLe (by omega) (by omega)]; omega
    refine zOk_do 60 (tbl := tX1_begin) zck_10 rfl (by omega) (h := ?_)
    exact ⟨fun c => absurd c c1, fun _ => ⟨rfl, rfl, q mem (zTr_eq hT (by show l = l ++ []; rw [List.append_nil])) zqfr.rf⟩⟩
  | succ f ih =>
    intro k b l mem d Q hfk hd hb24 hb hS hT q
    have c1 : nI k ≤ nI 16 := by rw [nLe (by omega) (by omega)]; omega
    have nb : ∀ {j : Nat}, j ≤ 24 → (nI b = nI j ↔ b = j) := fun hj => nEq (by omega) (by omega)
    unfold zbv zbt at q
    refine zOk_do 200 (tbl := tX1_begin) zck_10 rfl (by omega) (h := ?_)
    refine ⟨fun _ => ⟨rfl, ok_leave (by omega) hk hT (fun m1 hT1 f1 => ?_)⟩, fun c => absurd c1 c⟩
    have hb1 : zHB m1 10000 g := hb.same w0 (fun j hj => f1 _ (by omega) (by omega))
    have hS1 : zSt m1 := zT3.same hS f1
    have go : ∀ b' (d : Nat) (Q : Option Value → zMem → Prop), f + 3 < d → b' ≤ 24 → (∀ mem', zTr mem' 771 780 ((l ++ [b]) ++ zbt g e f b') → zqfr 771 780 m1 mem' → Q (some (.int (zbv g e f b'))) mem') → zOk X d 10 [.ref 770, .ref 10000, .int (nI b'), .int (nI e), .int (nI k + nI 1)] m1 lk L lk L Q := fun b' d Q hd hb' q' => by
      rw [show nI k + nI 1 = nI (k + 1) from nI_add k 1]
      exact ih (k + 1) b' (l ++ [b]) m1 d Q (by omega) hd hb' hb1 hS1 hT1 q'
    have go2 : ∀ m2 l2 b' (d : Nat) (Q : Option Value → zMem → Prop), f + 3 < d → b' ≤ 24 → zqfr 771 780 m1 m2 → zTr m2 771 780 l2 → (∀ mem', zTr mem' 771 780 (l2 ++ zbt g e f b') → zqfr 771 780 m2 mem' → Q (some (.int (zbv g e f b'))) mem') → zOk X d 10 [.ref 770, .ref 10000, .int (nI b'), .int (nI e), .int (nI k + nI 1)] m2 lk L lk L Q := fun m2 l2 b' d Q hd hb' f2 hT2 q' => by
      rw [show nI k + nI 1 = nI (k + 1) from nI_add k 1]
      exact ih (k + 1) b' l2 m2 d Q (by omega) hd hb' (hb1.same w0 (fun j hj => f2 _ (by omega) (by omega))) (zT3.same hS1 f2) hT2 q'
    have ap : ∀ t : List Nat, l ++ [b] ++ t = l ++ b :: t := fun t => by rw [List.append_assoc]; rfl
    have fin : ∀ m2 t v, zTr m2 771 780 (l ++ [b] ++ t) → zqfr 771 780 m1 m2 → ((∀ mem', zTr mem' 771 780 (l ++ b :: t) → zqfr 771 780 mem mem' → Q (some (.int v)) mem')) → Q (some (.int v)) m2 := fun m2 t v hT2 f2 p => p m2 (zTr_eq hT2 (ap t)) (f1.tr f2)
    refine ⟨fun c => ?_, fun c10 => ⟨fun c => ?_, fun c11 => ⟨fun c => ?_, fun c12 => ⟨fun c => ?_, fun c13 => ⟨fun c => ?_, fun c14 => ⟨fun c => ?_, fun c15 => ⟨fun c => ?_, fun c16 => ⟨fun c => ?_, fun c17 => ⟨fun c => ?_, fun c18 => ⟨fun c => ?_, fun c19 => ⟨fun c => ?_, fun c20 => ⟨fun c => ?_, fun c21 => ⟨fun c => ?_, fun c22 => ⟨fun c => ?_, fun c23 => ⟨fun c => ?_, fun c24 => ⟨rfl, rfl, ?_⟩⟩⟩⟩⟩⟩⟩⟩⟩⟩⟩⟩⟩⟩⟩⟩
    · have c := (nb (by omega)).mp c
      have ew : m1 (10000 + (7 + 6 * 3) + (nI e).toNatClampNeg) = nI (g (25 + e)) := by rw [nC (by omega)]; exact hb1.wt he
      subst c
      have p := fin m1 [] _ (zTr_eq hT1 (List.append_nil _).symm) zqfr.rf q
      rw [← ew] at p
      exact ⟨hh.k3, _, hh.lk 3 (by omega), Or.inl (hh.ka 3 (by omega)), hh.inn (by omega), rfl, rfl, p⟩
    · have c := (nb (by omega)).mp c
      subst c
      exact ⟨rfl, go 10 _ _ (by omega) (by omega) (fun m2 hT2 f2 => ok_bodyFor (by omega) hh (hb1.same w0 (fun j hj => f2 _ (by omega) (by omega))) wf he (zT3.same hS1 f2) (by omega) ⟨rfl, go2 m2 _ _ _ _ (by omega) hz1 f2 hT2 (fun m3 hT3 f3 => ⟨rfl, rfl, fin m3 (zbt g e f 10 ++ zbt g e f (zbf (g (7 + e)) 1)) _ (zTr_eq hT3 (List.append_assoc _ _ _)) (f2.tr f3) q⟩)⟩)⟩
    · have c := (nb (by omega)).mp c
      subst c
      exact ⟨rfl, go 11 _ _ (by omega) (by omega) (fun m2 hT2 f2 => ⟨rfl, rfl, fin m2 _ _ hT2 f2 q⟩)⟩
    · have c := (nb (by omega)).mp c
      subst c
      exact ⟨rfl, go 10 _ _ (by omega) (by omega) (fun m2 hT2 f2 => ⟨rfl, rfl, fin m2 _ _ hT2 f2 q⟩)⟩
    · have c := (nb (by omega)).mp c
      subst c
      exact ⟨rfl, go 13 _ _ (by omega) (by omega) (fun m2 hT2 f2 => ⟨rfl, rfl, fin m2 _ _ hT2 f2 q⟩)⟩
    · have c := (nb (by omega)).mp c
      subst c
      exact ⟨rfl, rfl, fin m1 [] _ (zTr_eq hT1 (List.append_nil _).symm) zqfr.rf q⟩
    · have c := (nb (by omega)).mp c
      subst c
      exact ⟨rfl, rfl, fin m1 [] _ (zTr_eq hT1 (List.append_nil _).symm) zqfr.rf q⟩
    · have c := (nb (by omega)).mp c
      subst c
      exact ⟨rfl, rfl, fin m1 [] _ (zTr_eq hT1 (List.append_nil _).symm) zqfr.rf q⟩
    · have c := (nb (by omega)).mp c
      subst c
      exact ⟨rfl, rfl, fin m1 [] _ (zTr_eq hT1 (List.append_nil _).symm) zqfr.rf q⟩
    · have c := (nb (by omega)).mp c
      subst c
      exact ⟨rfl, rfl, fin m1 [] _ (zTr_eq hT1 (List.append_nil _).symm) zqfr.rf q⟩
    · have c := (nb (by omega)).mp c
      subst c
      exact ⟨rfl, rfl, fin m1 [] _ (zTr_eq hT1 (List.append_nil _).symm) zqfr.rf q⟩
    · have c := (nb (by omega)).mp c
      subst c
      refine ⟨rfl, go 20 _ _ (by omega) (by omega) (fun m2 hT2 f2 => ?_)⟩
      have ew : m2 (10000 + (7 + 6 * 4) + (nI e).toNatClampNeg) = nI (g (31 + e)) := by rw [nC (by omega)]; exact (hb1.same w0 (fun j hj => f2 _ (by omega) (by omega))).ht he
      have p := fin m2 _ _ hT2 f2 q
      rw [show (nI (g (31 + e))) = m2 (10000 + (7 + 6 * 4) + (nI e).toNatClampNeg) from ew.symm] at p
      exact ⟨hh.k3, _, hh.lk 4 (by omega), Or.inl (hh.ka 4 (by omega)), hh.inn (by omega), rfl, rfl, p⟩
    · have c := (nb (by omega)).mp c
      subst c
      exact ⟨rfl, go 21 _ _ (by omega) (by omega) (fun m2 hT2 f2 => ⟨rfl, rfl, fin m2 _ _ hT2 f2 q⟩)⟩
    · have c := (nb (by omega)).mp c
      subst c
      exact ⟨rfl, go 20 _ _ (by omega) (by omega) (fun m2 hT2 f2 => ok_bodyFor (by omega) hh (hb1.same w0 (fun j hj => f2 _ (by omega) (by omega))) wf he (zT3.same hS1 f2) (by omega) ⟨rfl, go2 m2 _ _ _ _ (by omega) hz0 f2 hT2 (fun m3 hT3 f3 => ⟨rfl, rfl, fin m3 (zbt g e f 20 ++ zbt g e f (zbf (g (7 + e)) 0)) _ (zTr_eq hT3 (List.append_assoc _ _ _)) (f2.tr f3) q⟩)⟩)⟩
    · have c := (nb (by omega)).mp c
      subst c
      exact ⟨rfl, go 21 _ _ (by omega) (by omega) (fun m2 hT2 f2 => ⟨rfl, rfl, fin m2 _ _ hT2 f2 q⟩)⟩
    · have n : ∀ j, j ≤ 24 → ¬ nI b = nI j → ¬ b = j := fun j hj h z => h ((nb hj).mpr z)
      have a10 := n 10 (by omega) c10
      have a11 := n 11 (by omega) c11
      have a12 := n 12 (by omega) c12
      have a13 := n 13 (by omega) c13
      have a14 := n 14 (by omega) c14
      have a20 := n 20 (by omega) c20
      have a21 := n 21 (by omega) c21
      have a22 := n 22 (by omega) c22
      have a23 := n 23 (by omega) c23
      have a24 := n 24 (by omega) c24
      rw [if_neg a10, if_neg a11, if_neg a12, if_neg a13, if_neg a14, if_neg a20, if_neg a21, if_neg a22, if_neg a23, if_neg a24, if_neg a10, if_neg a11, if_neg a12, if_neg a13, if_neg a14, if_neg a20, if_neg a21, if_neg a22, if_neg a23, if_neg a24] at q
      exact fin m1 [] _ (zTr_eq hT1 (List.append_nil _).symm) zqfr.rf q
theorem zTr_0 {mem : zMem} {c b : Nat} : zTr (upd mem c (nI 0)) c b [] := ⟨by rw [upd_eq]; rfl, fun i _ h => absurd h (Nat.not_lt_zero _)⟩
theorem zqfr.up {c b : Nat} {mem : zMem} {v : Int32} : zqfr c b mem (upd mem c v) := fun x h _ => upd_ne h
theorem ok_answer {e w : Nat} (hd : 22 < d) (hk : zKs lk) (hh : zHo lk 10000) (hb : zHB mem 10000 g) (wf : zWF g) (he : e < g 0) (hS : zSt mem) (hw : w ≤ 1) (q : ∀ mem', zTr mem' 771 780 (zbt g e 17 (zbf (g (7 + e)) w)) → zqfr 771 780 mem mem' → Q (some (.int (zbv g e 17 (zbf (g (7 + e)) w)))) mem') : zOk X d 8 [.ref 770, .ref 10000, .int (nI e), .int (nI w)] mem lk L lk L Q := by
  have hk5 := (wf.2.2.2.2.2.2.2.2 e he).1
  have f1 : zqfr 771 780 mem (upd mem (770 + 1) (nI 0)) := zqfr.up
  have hb1 : zHB (upd mem (770 + 1) (nI 0)) 10000 g := hb.same wf.1 (fun j hj => f1 _ (by omega) (by omega))
  refine zOk_do 60 (tbl := tX1_answer) zck_8 rfl (by omega) (h := ?_)
  exact ⟨rfl, ok_bodyFor (by omega) hh hb1 wf he (zT3.same hS f1) hw ⟨rfl, ok_abegin hk hh wf he 17 0 _ [] _ _ _ (by omega) (by omega) (zbf_le _ (by omega) w hw) hb1 (zT3.same hS f1) zTr_0 (fun m2 hT2 f2 => ⟨rfl, rfl, q m2 hT2 (f1.tr f2)⟩)⟩⟩
theorem ok_ask {x y : Int32} (hd : 23 < d) (hk : zKs lk) (hh : zHo lk 10000) (hb : zHB mem 10000 g) (hN : zNow g) (hS : zSt mem)
    (qB : ((x.toInt < 0 ∨ (g 0 : Int) ≤ x.toInt) ∨ (y.toInt < 0 ∨ 1 < y.toInt)) → Q (some (.int (-(nI 1000001)))) mem)
    (q : ∀ e w, e < g 0 → x = nI e → y = nI w → w ≤ 1 → ∀ mem', zTr mem' 771 780 (zbt g e 17 (zbf (g (7 + e)) w)) → zqfr 771 780 mem mem' → Q (some (.int (zbv g e 17 (zbf (g (7 + e)) w)))) mem') : zOk X d 124 [.ref 100, .int x, .int y] mem lk L lk L Q := by
  refine zOk_do 80 (tbl := tX7_ask) zck_124 rfl (by omega) (h := ?_)
  refine ⟨rfl, _, hk.at 102 10000, by rw [hh.k3]; rfl, ok_isDish (by omega) hh hb hN.le.1 (fun e he ex => zT_eq ?_) (fun c => zF_eq ⟨rfl, rfl, qB (Or.inl c)⟩)⟩
  refine ok_isOutside (a := 0) (b := 1) (by omega) (by omega) (by omega) (fun c => zT_eq ⟨rfl, rfl, qB (Or.inr (by omega))⟩) (fun w h1 h2 ey => zF_eq ⟨rfl, _, hk.at 108 770, rfl, _, hk.at 102 10000, rfl, ?_⟩)
  have p := q e w he ex ey h2
  subst ex ey
  exact ok_answer (by omega) hk hh hb (hN.wf (by omega)).1 he hS h2 (fun m1 hT1 f1 => ⟨rfl, rfl, p m1 hT1 f1⟩)
end AS
