/-! site, need -/
/-- the best place and one more than its worth, by the first f places; nothing yet: 0, 0 -/
def zsite (G : Nat → Nat) : Nat → Nat × Nat
  | 0 => (0, 0)
  | f + 1 => if (zsite G f).2 < G f + 1 then (f, G f + 1) else zsite G f
def zmst : Nat → Int32
  | 0 => -(nI 1)
  | m + 1 => nI m
theorem zmst_le {r m : Nat} (hr : r ≤ 100) (hm : m ≤ 100) : nI r ≤ zmst m ↔ r + 1 ≤ m := by
  have nm : (-(nI 1)).toInt = -1 := by decide
  cases m with
  | zero => show nI r ≤ -(nI 1) ↔ _; rw [i_le, nm, nT (by omega)]; omega
  | succ m => show nI r ≤ nI m ↔ _; rw [nLe (by omega) (by omega)]; omega
theorem zsite_ok (G : Nat → Nat) : ∀ f, (0 < f → (zsite G f).2 = G (zsite G f).1 + 1 ∧ (zsite G f).1 < f)
  | 0 => fun h => by omega
  | f + 1 => fun _ => by
    have ih := zsite_ok G f
    unfold zsite
    split
    · exact ⟨rfl, Nat.lt_succ_self f⟩
    · rename_i c
      by_cases z : 0 < f
      · exact ⟨(ih z).1, by have := (ih z).2; omega⟩
      · exfalso
        apply c
        rw [show f = 0 by omega]
        exact Nat.succ_pos _
theorem zsite_le (G : Nat → Nat) (h : ∀ f, G f ≤ 50) : ∀ f, (zsite G f).2 ≤ 51 ∧ (zsite G f).1 ≤ f
  | 0 => ⟨by show 0 ≤ 51; omega, Nat.le_refl _⟩
  | f + 1 => by
    have ih := zsite_le G h f
    have := h f
    unfold zsite
    split
    · exact ⟨by show G f + 1 ≤ 51; omega, by show f ≤ f + 1; omega⟩
    · exact ⟨ih.1, by omega⟩
theorem zpc_le (b : Nat) : zpc b ≤ 6 := by unfold zpc; omega
def zGF (g : zH) (n f : Nat) : Nat := zpc (zfine (mnG n (va_up g 4 f)) (g 0))
theorem zGF_le (g : zH) (n f : Nat) : zGF g n f ≤ 50 := Nat.le_trans (zpc_le _) (by omega)
/-- the least of v, v + 1, .. (m of them) by which all is served; c: which number of the house -/
def zneed (g : zH) (n c : Nat) : Nat → Nat → Int32
  | 0, _ => -(nI 1000000)
  | m + 1, v => if zbits (mnG n (va_up g c v)) 11 (g 0) = 2 ^ g 0 - 1 then nI v else zneed g n c m (v + 1)
def znwhat (c : Nat) : Nat := if c = 0 then 4 else 40
section SI
variable {X d : Nat} {mem : zMem} {lk : zLk} {L : List Nat} {Q : Option Value → zMem → Prop} {g : zH}
theorem bestStand_loop {n : Nat} (hn : n ≤ 1000) (hd : 5 < d) (hk : zKs lk) (hh : zHo lk 10128) (ho : zHo lk 10000) (wf : zWF g) (h6 : g 6 + n ≤ 999999) : ∀ m f mem v, f + m = g 1 → zHB mem 10000 g → zSt mem → (∀ mem', zfr mem mem' 10128 → Q (some (.int (nI (zsite (zGF g n) (g 1)).1))) mem') → zE X d 16 8 [.ref 710, .ref 10000, .int (nI n), .int (nI (zsite (zGF g n) f).1), .int (zmst (zsite (zGF g n) f).2), .int (nI f), v] [] mem lk L lk L Q := by
  have w1 := wf.2.2.1
  intro m
  induction m with
  | zero =>
    intro f mem v hf hb hS q
    refine zE_do 60 8 (tbl := tX2_bestStand) zck_16 rfl (h := ?_)
    refine ⟨ho.k3, fun _ => ⟨rfl, rfl, ?_⟩, fun c => ?_⟩
    · rw [show f = g 1 by omega]; exact q mem zfr.rf
    · exfalso
      have c : ¬ mem (10000 + 1) ≤ nI f := c
      rw [hb.k 1 (by omega), nLe (by omega) (by omega)] at c
      omega
  | succ m ih =>
    intro f mem v hf hb hS q
    refine zE_do 60 8 (tbl := tX2_bestStand) zck_16 rfl (h := ?_)
    refine ⟨ho.k3, fun c => ?_, fun _ => ⟨rfl, ok_goodFrom hn (by omega) hk hh ho hb wf (by omega) h6 hS (fun m1 f1 => ?_)⟩⟩
    · exfalso
      have c : mem (10000 + 1) ≤ nI f := c
      rw [hb.k 1 (by omega), nLe (by omega) (by omega)] at c
      omega
    · have h1 := zGF_le g n f
      have h2 := zsite_le (zGF g n) (zGF_le g n) f
      have k := ih (f + 1) m1 (.int (nI (zGF g n f))) (by omega) (hb.same wf.1 (fun j hj => f1 _ (by omega))) (hS.fr f1 (Or.inl (by omega))) (fun m2 f2 => q m2 (f1.tr f2))
      rw [show nI (f + 1) = nI f + nI 1 from (nI_add f 1).symm] at k
      unfold zsite at k
      refine ⟨fun c => ?_, fun c => ?_⟩
      · have c : nI (zGF g n f) ≤ zmst (zsite (zGF g n) f).2 := c
        rw [zmst_le (by omega) (by omega)] at c
        rw [if_neg (by omega)] at k
        exact k
      · have c : ¬ nI (zGF g n f) ≤ zmst (zsite (zGF g n) f).2 := c
        rw [zmst_le (by omega) (by omega)] at c
        rw [if_pos (by omega)] at k
        exact k
theorem ok_bestStand {n : Nat} (hn : n ≤ 1000) (hd : 5 < d) (hk : zKs lk) (hh : zHo lk 10128) (ho : zHo lk 10000) (hb : zHB mem 10000 g) (wf : zWF g) (h6 : g 6 + n ≤ 999999) (hS : zSt mem) (q : ∀ mem', zfr mem mem' 10128 → Q (some (.int (nI (zsite (zGF g n) (g 1)).1))) mem') : zOk X d 16 [.ref 710, .ref 10000, .int (nI n)] mem lk L lk L Q := by
  refine zOk_do 20 (tbl := tX2_bestStand) zck_16 rfl (by omega) (h := ?_)
  exact bestStand_loop hn hd hk hh ho wf h6 (g 1) 0 mem _ (by omega) hb hS q
/-- the answer of site -/
def zsiteA (g : zH) (n w : Nat) : Nat := if w = 0 then (zsite (zGF g n) (g 1)).1 else zGF g n (zsite (zGF g n) (g 1)).1
theorem ok_site {x y : Int32} (hd : 6 < d) (hk : zKs lk) (hh : zHo lk 10128) (ho : zHo lk 10000) (hb : zHB mem 10000 g) (hN : zNow g) (hS : zSt mem)
    (qS : g 0 = 0 → Q (some (.int (-(nI 1000002)))) mem) (qB : 0 < g 0 → ((x.toInt < 1 ∨ 40 < x.toInt) ∨ (y.toInt < 0 ∨ 1 < y.toInt)) → Q (some (.int (-(nI 1000001)))) mem)
    (q : ∀ n w, 0 < g 0 → x = nI n → 1 ≤ n ∧ n ≤ 40 → y = nI w → w ≤ 1 → ∀ mem', zfr mem mem' 10128 → Q (some (.int (nI (zsiteA g n w)))) mem') : zOk X d 111 [.ref 100, .int x, .int y] mem lk L lk L Q := by
  refine zOk_do 60 (tbl := tX7_site) zck_111 rfl (by omega) (h := ?_)
  refine ⟨rfl, _, hk.at 102 10000, by rw [ho.k3]; rfl, ok_stands (by omega) ho hb hN.le.1 (fun h0 => zT_ne ?_) (fun h0 => zF_ne ⟨rfl, rfl, qS h0⟩)⟩
  have wf := hN.wf h0
  have w1 := wf.1.2.1
  refine ok_isOutside (a := 1) (b := 40) (by omega) (by omega) (by omega) (fun c => zT_ne ⟨rfl, rfl, qB h0 (Or.inl (by omega))⟩) (fun n h1 h2 ex => zF_ne ?_)
  refine ok_isOutside (a := 0) (b := 1) (by omega) (by omega) (by omega) (fun c => zT_eq ⟨rfl, rfl, qB h0 (Or.inr (by omega))⟩) (fun w h3 h4 ey => zF_eq ?_)
  have p := q n w h0 ex ⟨h1, h2⟩ ey h4
  subst ex ey
  have hs := zsite_ok (zGF g n) (g 1) (by omega)
  unfold zsiteA at p
  refine ⟨rfl, _, hk.at 106 710, rfl, _, hk.at 102 10000, rfl, ok_bestStand (by omega) (by omega) hk hh ho hb wf.1 (by omega) hS (fun m1 f1 => ⟨fun c => ?_, fun c => ⟨rfl, rfl, ?_⟩⟩)⟩
  · have c : ¬ nI w = 0 := c
    rw [n0 (by omega)] at c
    rw [if_neg c] at p
    exact ⟨rfl, _, hk.at 106 710, rfl, _, hk.at 102 10000, rfl, ok_goodFrom (by omega) (by omega) hk hh ho (hb.same wf.1.1 (fun j hj => f1 _ (by omega))) wf.1 hs.2 (by omega) (hS.fr f1 (Or.inl (by omega))) (fun m2 f2 => ⟨rfl, rfl, p m2 (f1.tr f2)⟩)⟩
  · have c : nI w = 0 := c
    rw [n0 (by omega)] at c
    rw [if_pos (by omega)] at p
    exact p m1 f1
theorem leastRoom_loop {n : Nat} (hn : n ≤ 1000) (hd : 5 < d) (hk : zKs lk) (hh : zHo lk 10128) (ho : zHo lk 10000) (wf : zWF g) (h6 : g 6 + n ≤ 999999) : ∀ m v mem, v + m = 5 → 1 ≤ v → zHB mem 10000 g → zSt mem → (∀ mem', zfr mem mem' 10128 → Q (some (.int (zneed g n 2 m v))) mem') → zE X d 18 2 [.ref 710, .ref 10000, .int (nI n), .int (nI v)] [] mem lk L lk L Q := by
  have w3 := wf.2.2.2.2.1
  intro m
  induction m with
  | zero =>
    intro v mem hv h1 hb hS q
    have c1 : nI 4 < nI v := by rw [nLt (by omega) (by omega)]; omega
    refine zE_do 60 2 (tbl := tX2_leastRoom) zck_18 rfl (h := ?_)
    exact ⟨fun _ => ⟨rfl, rfl, q mem zfr.rf⟩, fun c => absurd c1 c⟩
  | succ m ih =>
    intro v mem hv h1 hb hS q
    have c1 : ¬ nI 4 < nI v := by rw [nLt (by omega) (by omega)]; omega
    have e3 : mem (10000 + 3) = nI (g 3) := hb.k 3 (by omega)
    have eg : va_up (va_up g 2 v) 3 (g 3) = va_up g 2 v := by
      funext j
      by_cases z : j = 3
      · subst z; rw [zup_eq, zup_ne (by omega)]
      · rw [zup_ne z]
    unfold zneed at q
    refine zE_do 60 2 (tbl := tX2_leastRoom) zck_18 rfl (h := ?_)
    refine ⟨fun c => absurd c c1, fun _ => ⟨ho.k3, rfl, ?_⟩⟩
    rw [e3]
    refine ok_servesAll hn (by omega) hk hh ho hb wf ⟨h1, by omega⟩ ⟨by omega, by omega⟩ h6 hS (fun z m1 f1 => zT_eq ⟨rfl, rfl, ?_⟩) (fun z m1 f1 => zF_eq ?_)
    · rw [eg] at z
      rw [if_pos z] at q
      exact q m1 f1
    · rw [eg] at z
      rw [if_neg z] at q
      have k := ih (v + 1) m1 (by omega) (by omega) (hb.same wf.1 (fun j hj => f1 _ (by omega))) (hS.fr f1 (Or.inl (by omega))) (fun m2 f2 => q m2 (f1.tr f2))
      rw [show nI (v + 1) = nI v + nI 1 from (nI_add v 1).symm] at k
      exact k
theorem ok_leastRoom {n : Nat} (hn : n ≤ 1000) (hd : 5 < d) (hk : zKs lk) (hh : zHo lk 10128) (ho : zHo lk 10000) (hb : zHB mem 10000 g) (wf : zWF g) (h6 : g 6 + n ≤ 999999) (hS : zSt mem) (q : ∀ mem', zfr mem mem' 10128 → Q (some (.int (zneed g n 2 4 1))) mem') : zOk X d 18 [.ref 710, .ref 10000, .int (nI n)] mem lk L lk L Q := by
  refine zOk_do 20 (tbl := tX2_leastRoom) zck_18 rfl (by omega) (h := ?_)
  exact leastRoom_loop hn hd hk hh ho wf h6 4 1 mem (by omega) (by omega) hb hS q
theorem leastRope_loop {n : Nat} (hn : n ≤ 1000) (hd : 5 < d) (hk : zKs lk) (hh : zHo lk 10128) (ho : zHo lk 10000) (wf : zWF g) (h6 : g 6 + n ≤ 999999) : ∀ m v mem, v + m = 41 → 1 ≤ v → zHB mem 10000 g → zSt mem → (∀ mem', zfr mem mem' 10128 → Q (some (.int (zneed g n 3 m v))) mem') → zE X d 19 2 [.ref 710, .ref 10000, .int (nI n), .int (nI v)] [] mem lk L lk L Q := by
  have w3 := wf.2.2.2.1
  intro m
  induction m with
  | zero =>
    intro v mem hv h1 hb hS q
    have c1 : nI 40 < nI v := by rw [nLt (by omega) (by omega)]; omega
    refine zE_do 60 2 (tbl := tX2_leastRope) zck_19 rfl (h := ?_)
    exact ⟨fun _ => ⟨rfl, rfl, q mem zfr.rf⟩, fun c => absurd c1 c⟩
  | succ m ih =>
    intro v mem hv h1 hb hS q
    have c1 : ¬ nI 40 < nI v := by rw [nLt (by omega) (by omega)]; omega
    have e3 : mem (10000 + 2) = nI (g 2) := hb.k 2 (by omega)
    have eg : va_up (va_up g 2 (g 2)) 3 v = va_up g 3 v := by
      funext j
      by_cases z : j = 3
      · subst z; rw [zup_eq, zup_eq]
      · rw [zup_ne z, zup_ne z]
        by_cases z2 : j = 2
        · subst z2; rw [zup_eq]
        · rw [zup_ne z2]
    unfold zneed at q
    refine zE_do 60 2 (tbl := tX2_leastRope) zck_19 rfl (h := ?_)
    refine ⟨fun c => absurd c c1, fun _ => ⟨ho.k3, rfl, ?_⟩⟩
    rw [e3]
    refine ok_servesAll hn (by omega) hk hh ho hb wf ⟨by omega, by omega⟩ ⟨h1, by omega⟩ h6 hS (fun z m1 f1 => zT_eq ⟨rfl, rfl, ?_⟩) (fun z m1 f1 => zF_eq ?_)
    · rw [eg] at z
      rw [if_pos z] at q
      exact q m1 f1
    · rw [eg] at z
      rw [if_neg z] at q
      have k := ih (v + 1) m1 (by omega) (by omega) (hb.same wf.1 (fun j hj => f1 _ (by omega))) (hS.fr f1 (Or.inl (by omega))) (fun m2 f2 => q m2 (f1.tr f2))
      rw [show nI (v + 1) = nI v + nI 1 from (nI_add v 1).symm] at k
      exact k
theorem ok_leastRope {n : Nat} (hn : n ≤ 1000) (hd : 5 < d) (hk : zKs lk) (hh : zHo lk 10128) (ho : zHo lk 10000) (hb : zHB mem 10000 g) (wf : zWF g) (h6 : g 6 + n ≤ 999999) (hS : zSt mem) (q : ∀ mem', zfr mem mem' 10128 → Q (some (.int (zneed g n 3 40 1))) mem') : zOk X d 19 [.ref 710, .ref 10000, .int (nI n)] mem lk L lk L Q := by
  refine zOk_do 20 (tbl := tX2_leastRope) zck_19 rfl (by omega) (h := ?_)
  exact leastRope_loop hn hd hk hh ho wf h6 40 1 mem (by omega) (by omega) hb hS q
def zneedA (g : zH) (n w : Nat) : Int32 := if w = 0 then zneed g n 2 4 1 else zneed g n 3 40 1
theorem ok_need {x y : Int32} (hd : 6 < d) (hk : zKs lk) (hh : zHo lk 10128) (ho : zHo lk 10000) (hb : zHB mem 10000 g) (hN : zNow g) (hS : zSt mem)
    (qS : g 0 = 0 → Q (some (.int (-(nI 1000002)))) mem) (qB : 0 < g 0 → ((x.toInt < 1 ∨ 40 < x.toInt) ∨ (y.toInt < 0 ∨ 1 < y.toInt)) → Q (some (.int (-(nI 1000001)))) mem)
    (q : ∀ n w, 0 < g 0 → x = nI n → 1 ≤ n ∧ n ≤ 40 → y = nI w → w ≤ 1 → ∀ mem', zfr mem mem' 10128 → Q (some (.int (zneedA g n w))) mem') : zOk X d 112 [.ref 100, .int x, .int y] mem lk L lk L Q := by
  refine zOk_do 60 (tbl := tX7_need) zck_112 rfl (by omega) (h := ?_)
  refine ⟨rfl, _, hk.at 102 10000, by rw [ho.k3]; rfl, ok_stands (by omega) ho hb hN.le.1 (fun h0 => zT_ne ?_) (fun h0 => zF_ne ⟨rfl, rfl, qS h0⟩)⟩
  have wf := hN.wf h0
  refine ok_isOutside (a := 1) (b := 40) (by omega) (by omega) (by omega) (fun c => zT_ne ⟨rfl, rfl, qB h0 (Or.inl (by omega))⟩) (fun n h1 h2 ex => zF_ne ?_)
  refine ok_isOutside (a := 0) (b := 1) (by omega) (by omega) (by omega) (fun c => zT_eq ⟨rfl, rfl, qB h0 (Or.inr (by omega))⟩) (fun w h3 h4 ey => zF_eq ?_)
  have p := q n w h0 ex ⟨h1, h2⟩ ey h4
  subst ex ey
  unfold zneedA at p
  refine ⟨fun c => ?_, fun c => ?_⟩
  · have c : ¬ nI w = 0 := c
    rw [n0 (by omega)] at c
    rw [if_neg c] at p
    exact ⟨rfl, _, hk.at 106 710, rfl, _, hk.at 102 10000, rfl, ok_leastRope (by omega) (by omega) hk hh ho hb wf.1 (by omega) hS (fun m1 f1 => ⟨rfl, rfl, p m1 f1⟩)⟩
  · have c : nI w = 0 := c
    rw [n0 (by omega)] at c
    rw [if_pos (by omega)] at p
    exact ⟨rfl, _, hk.at 106 710, rfl, _, hk.at 102 10000, rfl, ok_leastRoom (by omega) (by omega) hk hh ho hb wf.1 (by omega) hS (fun m1 f1 => ⟨rfl, rfl, p m1 f1⟩)⟩
/-! the reference -/
theorem msite_loop {n w : Nat} (hn : n ≤ 1000) (hwt : w ≤ 1) (hd : 5 < d) (hw : lk 1000 = some 2000) (wf : zWF g) (h6 : g 6 + n ≤ 999999) (hp : 0 < g 1) : ∀ m f mem v, f + m = g 1 → zRw mem 0 g → (∀ mem', ztfr mem mem' → Q (some (.int (nI (zsiteA g n w)))) mem') → zE X d 188 43 [.ref 1000, .int (nI n), .int (nI w), .int (nI (zsite (zGF g n) f).1), .int (zmst (zsite (zGF g n) f).2), .int (nI f), v] [] mem lk L lk L Q := by
  have w1 := wf.2.2.1
  intro m
  induction m with
  | zero =>
    intro f mem v hf hr q
    have e1 : mem (2000 + (nI 1).toNatClampNeg) = nI (g 1) := hr.1.k 1 (by omega)
    have hs := zsite_ok (zGF g n) (g 1) hp
    unfold zsiteA at q
    refine zE_do 60 43 (tbl := tX8_site) zck_188 rfl (h := ?_)
    refine ⟨rfl, _, hw, Or.inl rfl, zwi0 (by omega), fun _ => ⟨fun c => ⟨rfl, rfl, ?_⟩, fun c => ⟨rfl, rfl, ?_⟩⟩, fun c => ?_⟩
    · have c : ¬ nI w = 0 := c
      rw [n0 (by omega)] at c
      rw [if_neg c] at q
      rw [show f = g 1 by omega, hs.1]
      exact q mem ztfr.rf
    · have c : nI w = 0 := c
      rw [n0 (by omega)] at c
      rw [if_pos (by omega)] at q
      rw [show f = g 1 by omega]
      exact q mem ztfr.rf
    · exfalso
      have c : ¬ mem (2000 + (nI 1).toNatClampNeg) ≤ nI f := c
      rw [e1, nLe (by omega) (by omega)] at c
      omega
  | succ m ih =>
    intro f mem v hf hr q
    have e1 : mem (2000 + (nI 1).toNatClampNeg) = nI (g 1) := hr.1.k 1 (by omega)
    have w4 : zWF (va_up g 4 f) := wf.s4 (by omega)
    have e6 : va_up g 4 f 6 = g 6 := zup_ne (by omega)
    have e0 : va_up g 4 f 0 = g 0 := zup_ne (by omega)
    obtain ⟨x1, x2, x3⟩ := mnG_wf n (va_up g 4 f) w4 (by omega)
    refine zE_do 60 43 (tbl := tX8_site) zck_188 rfl (h := ?_)
    refine ⟨rfl, _, hw, Or.inl rfl, zwi0 (by omega), fun c => ?_, fun _ => ⟨rfl, ok_tries (by omega) hw hr wf.1 (fun m1 hr1 f1 => ⟨rfl, _, hw, rfl, zwi0 (by omega), rfl, ?_⟩)⟩⟩
    · exfalso
      have c : mem (2000 + (nI 1).toNatClampNeg) ≤ nI f := c
      rw [e1, nLe (by omega) (by omega)] at c
      omega
    · have f2 : zfr m1 (upd m1 (2000 + (nI 47).toNatClampNeg) (nI f)) (2000 + 43) := zfr.up (by show 2000 + 43 ≤ 2000 + 47; omega) (by show 2000 + 47 < _; omega)
      have hr2 : zRw (upd m1 (2000 + (nI 47).toNatClampNeg) (nI f)) 43 (va_up g 4 f) := hr1.to (hr1.1.set 4 f (by omega) rfl) e0 f2
      refine ok_goesOn hn (by omega) hw hr2 w4 (by omega) (fun m3 hr3 f3 => ⟨rfl, ok_mfineOf (r := 43) (by omega) hw (by omega) hr3.1 x1 ?_⟩)
      have h64 := zfine64 (g := mnG n (va_up g 4 f)) x1.1
      refine ok_ones (by omega) h64 ?_
      rw [x2, e0]
      have h1 := zGF_le g n f
      have h2 := zsite_le (zGF g n) (zGF_le g n) f
      have ff := (f1.tr f2.t).tr f3
      have k := ih (f + 1) m3 (.int (nI (zGF g n f))) (by omega) (hr.same wf.1 (fun j hj => ff _ (by omega))) (fun m4 f4 => q m4 (ff.tr f4))
      rw [show nI (f + 1) = nI f + nI 1 from (nI_add f 1).symm] at k
      unfold zsite at k
      refine ⟨fun c => ⟨fun _ => ?_, fun c2 => absurd c c2⟩, fun c => ⟨fun c2 => absurd c2 c, fun _ => ?_⟩⟩
      · have c : nI (zGF g n f) ≤ zmst (zsite (zGF g n) f).2 := c
        rw [zmst_le (by omega) (by omega)] at c
        rw [if_neg (by omega)] at k
        exact k
      · have c : ¬ nI (zGF g n f) ≤ zmst (zsite (zGF g n) f).2 := c
        rw [zmst_le (by omega) (by omega)] at c
        rw [if_pos (by omega)] at k
        exact k
theorem ok_msite {x y : Int32} (hd : 6 < d) (hw : lk 1000 = some 2000) (hr : zRw mem 0 g) (hN : zNow g)
    (qS : g 0 = 0 → Q (some (.int (-(nI 1000002)))) mem) (qB : 0 < g 0 → ((x.toInt < 1 ∨ 40 < x.toInt) ∨ (y.toInt < 0 ∨ 1 < y.toInt)) → Q (some (.int (-(nI 1000001)))) mem)
    (q : ∀ n w, 0 < g 0 → x = nI n → 1 ≤ n ∧ n ≤ 40 → y = nI w → w ≤ 1 → ∀ mem', ztfr mem mem' → Q (some (.int (nI (zsiteA g n w)))) mem') : zOk X d 188 [.ref 1000, .int x, .int y] mem lk L lk L Q := by
  refine zOk_do 60 (tbl := tX8_site) zck_188 rfl (by omega) (h := ?_)
  refine ⟨rfl, ok_misHouse (by omega) hw hr.1 hN.le.1 (fun h0 => zT_ne ?_) (fun h0 => zF_ne ⟨rfl, rfl, qS h0⟩)⟩
  have wf := hN.wf h0
  have w1 := wf.1.2.1
  refine ok_min (a := 1) (b := 40) (by omega) (by omega) (by omega) (fun c => zF_eq ⟨rfl, rfl, qB h0 (Or.inl (by omega))⟩) (fun n h1 h2 ex => zT_eq ?_)
  refine ok_min (a := 0) (b := 1) (by omega) (by omega) (by omega) (fun c => zF_ne ⟨rfl, rfl, qB h0 (Or.inr (by omega))⟩) (fun w h3 h4 ey => zT_ne ?_)
  have p := q n w h0 ex ⟨h1, h2⟩ ey h4
  subst ex ey
  exact msite_loop (by omega) h4 (by omega) hw wf.1 (by omega) (by omega) (g 1) 0 mem _ (by omega) hr p
theorem mneed_loop {n w c t : Nat} (hn : n ≤ 1000) (hwt : (w = 0 ∧ c = 2 ∧ t = 4) ∨ (w = 1 ∧ c = 3 ∧ t = 40)) (hd : 5 < d) (hw : lk 1000 = some 2000) (wf : zWF g) (h6 : g 6 + n ≤ 999999) : ∀ m v mem, v + m = t + 1 → 1 ≤ v → zRw mem 0 g → (∀ mem', ztfr mem mem' → Q (some (.int (zneed g n c m v))) mem') → zE X d 189 49 [.ref 1000, .int (nI n), .int (nI w), .int (nI t), .int (nI v)] [] mem lk L lk L Q := by
  have w1 := wf.2.2.1
  have w0 := wf.1
  intro m
  induction m with
  | zero =>
    intro v mem hf h1 hr q
    have c1 : nI t < nI v := by rw [nLt (by omega) (by omega)]; omega
    refine zE_do 60 49 (tbl := tX8_need) zck_189 rfl (h := ?_)
    exact ⟨fun _ => ⟨rfl, rfl, q mem ztfr.rf⟩, fun c => absurd c1 c⟩
  | succ m ih =>
    intro v mem hf h1 hr q
    have c1 : ¬ nI t < nI v := by rw [nLt (by omega) (by omega)]; omega
    have w4 : zWF (va_up g c v) := by
      rcases hwt with ⟨-, rfl, rfl⟩ | ⟨-, rfl, rfl⟩
      · exact wf.s2 ⟨h1, by omega⟩
      · exact wf.s3 ⟨h1, by omega⟩
    have e6 : va_up g c v 6 = g 6 := zup_ne (by omega)
    have e0 : va_up g c v 0 = g 0 := zup_ne (by omega)
    obtain ⟨x1, x2, x3⟩ := mnG_wf n (va_up g c v) w4 (by omega)
    have hp : 2 ^ g 0 ≤ 2 ^ 6 := Nat.pow_le_pow_right (by omega) w0
    unfold zneed at q
    have key : ∀ m1, ztfr mem m1 → zRw m1 43 (va_up g c v) → zE X d 189 78 [.ref 1000, .int (nI n), .int (nI w), .int (nI t), .int (nI v)] [] m1 lk L lk L Q := fun m1 f1 hr1 => by
      refine zE_do 60 78 (tbl := tX8_need) zck_189 rfl (h := ?_)
      refine ⟨rfl, ok_goesOn hn (by omega) hw hr1 w4 (by omega) (fun m3 hr3 f3 => ⟨rfl, ok_mservedOf (r := 43) (by omega) hw (by omega) hr3.1 x1.1 x1.at11 ⟨rfl, _, hw, Or.inl rfl, zwi0 (by omega), ?_⟩⟩)⟩
      have ff := f1.tr f3
      have hr' : zRw m3 0 g := hr.same wf.1 (fun j hj => ff _ (by omega))
      have ez : m3 (2000 + (nI 0).toNatClampNeg) = nI (g 0) := hr'.1.k 0 (by omega)
      have h64 := zbits64 (g := mnG n (va_up g c v)) (p := 11) x1.1
      rw [x2, e0] at h64 ⊢
      refine ⟨fun c => ?_, fun c => ⟨rfl, rfl, ?_⟩⟩
      · have c : ¬ nI (zbits (mnG n (va_up g _ v)) 11 (g 0)) = nI 1 <<< (m3 (2000 + (nI 0).toNatClampNeg) &&& 31) - nI 1 := c
        rw [ez, zall_t _ (by omega)] at c
        rw [if_neg (fun z => c (by rw [z]))] at q
        have k := ih (v + 1) m3 (by omega) (by omega) hr' (fun m4 f4 => q m4 (ff.tr f4))
        rw [show nI (v + 1) = nI v + nI 1 from (nI_add v 1).symm] at k
        exact k
      · have c : nI (zbits (mnG n (va_up g _ v)) 11 (g 0)) = nI 1 <<< (m3 (2000 + (nI 0).toNatClampNeg) &&& 31) - nI 1 := c
        rw [ez, zall_t _ (by omega)] at c
        have c2 := (nEq (by omega) (by omega)).mp c
        rw [if_pos c2] at q
        exact q m3 ff
    refine zgoc [78] 60 49 (tbl := tX8_need) zck_189 rfl (h := ?_)
    refine ⟨fun c => absurd c c1, fun _ => ⟨rfl, ok_tries (by omega) hw hr wf.1 (fun m1 hr1 f1 => ⟨rfl, _, hw, fun cc => ⟨rfl, zwi1 (by omega), ?_⟩, fun cc => ⟨rfl, zwi1 (by omega), ?_⟩⟩)⟩⟩
    · have cc : ¬ nI w = 0 := cc
      rw [n0 (by omega)] at cc
      have ec : 3 = c := by omega
      have f2 : zfr m1 (upd m1 (2000 + (nI 43 + nI 3).toNatClampNeg) (nI v)) (2000 + 43) := zfr.up (by show 2000 + 43 ≤ 2000 + 46; omega) (by show 2000 + 46 < _; omega)
      subst ec
      exact key _ (f1.tr f2.t) (hr1.to (hr1.1.set 3 v (by omega) rfl) e0 f2)
    · have cc : nI w = 0 := cc
      rw [n0 (by omega)] at cc
      have ec : 2 = c := by omega
      have f2 : zfr m1 (upd m1 (2000 + (nI 43 + nI 2).toNatClampNeg) (nI v)) (2000 + 43) := zfr.up (by show 2000 + 43 ≤ 2000 + 45; omega) (by show 2000 + 45 < _; omega)
      subst ec
      exact key _ (f1.tr f2.t) (hr1.to (hr1.1.set 2 v (by omega) rfl) e0 f2)
theorem ok_mneed {x y : Int32} (hd : 6 < d) (hw : lk 1000 = some 2000) (hr : zRw mem 0 g) (hN : zNow g)
    (qS : g 0 = 0 → Q (some (.int (-(nI 1000002)))) mem) (qB : 0 < g 0 → ((x.toInt < 1 ∨ 40 < x.toInt) ∨ (y.toInt < 0 ∨ 1 < y.toInt)) → Q (some (.int (-(nI 1000001)))) mem)
    (q : ∀ n w, 0 < g 0 → x = nI n → 1 ≤ n ∧ n ≤ 40 → y = nI w → w ≤ 1 → ∀ mem', ztfr mem mem' → Q (some (.int (zneedA g n w))) mem') : zOk X d 189 [.ref 1000, .int x, .int y] mem lk L lk L Q := by
  refine zOk_do 60 (tbl := tX8_need) zck_189 rfl (by omega) (h := ?_)
  refine ⟨rfl, ok_misHouse (by omega) hw hr.1 hN.le.1 (fun h0 => zT_ne ?_) (fun h0 => zF_ne ⟨rfl, rfl, qS h0⟩)⟩
  have wf := hN.wf h0
  refine ok_min (a := 1) (b := 40) (by omega) (by omega) (by omega) (fun c => zF_eq ⟨rfl, rfl, qB h0 (Or.inl (by omega))⟩) (fun n h1 h2 ex => zT_eq ?_)
  refine ok_min (a := 0) (b := 1) (by omega) (by omega) (by omega) (fun c => zF_ne ⟨rfl, rfl, qB h0 (Or.inr (by omega))⟩) (fun w h3 h4 ey => zT_ne ?_)
  have p := q n w h0 ex ⟨h1, h2⟩ ey h4
  subst ex ey
  unfold zneedA at p
  refine ⟨fun c => ?_, fun c => ?_⟩
  · have c : ¬ nI w = 0 := c
    rw [n0 (by omega)] at c
    rw [if_neg c] at p
    exact mneed_loop (c := 3) (t := 40) (by omega) (Or.inr ⟨by omega, rfl, rfl⟩) (by omega) hw wf.1 (by omega) 40 1 mem (by omega) (by omega) hr p
  · have c : nI w = 0 := c
    rw [n0 (by omega)] at c
    rw [if_pos (by omega)] at p
    exact mneed_loop (c := 2) (t := 4) (by omega) (Or.inl ⟨by omega, rfl, rfl⟩) (by omega) hw wf.1 (by omega) 4 1 mem (by omega) (by omega) hr p
end SI
