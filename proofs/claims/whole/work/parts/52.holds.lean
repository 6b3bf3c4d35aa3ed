/-! holds -/
theorem zand_t : ∀ a, a < 64 → ∀ b, b < 64 → nI a &&& nI b = nI (a &&& b) ∧ a &&& b < 64 := by decide +kernel
theorem zsl_t : ∀ n, n ≤ 6 → nI 1 <<< (nI n &&& 31) = nI (2 ^ n) := by decide +kernel
theorem nsub_0 {a b : Nat} (ha : a < 2147483648) (hb : b < 2147483648) : nI a - nI b = 0 ↔ a = b := by
  constructor
  · intro h
    have := congrArg Int32.toInt h
    rw [nsubT ha hb, i_0] at this
    omega
  · intro h
    subst h
    exact Int32.sub_self _
def zload (g : zH) (s : Nat) : Bool := decide (s &&& zbits g 11 (g 0) = 0 ∧ zpc s ≤ g 2 ∧ zsum g 25 s (g 0) ≤ g 3)
def zfuller (g : zH) (s b : Nat) : Bool := decide (zsum g 25 b (g 0) < zsum g 25 s (g 0) ∨ zsum g 25 s (g 0) = zsum g 25 b (g 0) ∧ zpc b < zpc s)
def zloads (g : zH) : Nat → Nat
  | 0 => 0
  | s + 1 => zloads g s + (if zload g s = true then 1 else 0)
def zbest (g : zH) : Nat → Nat
  | 0 => 0
  | s + 1 => if zload g s = true ∧ zfuller g s (zbest g s) = true then s else zbest g s
theorem zloads_le (g : zH) : ∀ s, zloads g s ≤ s
  | 0 => Nat.le_refl _
  | s + 1 => by have := zloads_le g s; unfold zloads; split <;> omega
theorem zbest_le (g : zH) : ∀ s, zbest g s ≤ s
  | 0 => Nat.le_refl _
  | s + 1 => by have := zbest_le g s; unfold zbest; split <;> omega
theorem zbest_lt (g : zH) {s : Nat} (h : s < 64) : zbest g s < 64 := Nat.lt_of_le_of_lt (zbest_le g s) h
theorem zW54 {g : zH} (wf : zWF g) (s : Nat) : zsum g 25 s (g 0) ≤ 54 := by
  have h1 := zsum_le g 25 s 9 (g 0) (fun e he => (wf.2.2.2.2.2.2.2.2 e he).2.2.2.1.2)
  have := wf.1
  omega
def zholdsA (g : zH) (w : Int32) : Int32 := if w = nI 0 then nI (zloads g (2 ^ g 0)) else if w = nI 1 then nI (zbest g (2 ^ g 0)) else if w = nI 2 then nI (zsum g 25 (zbest g (2 ^ g 0)) (g 0)) else -(nI 1000001)
theorem zbest63 {g : zH} (h : g 0 ≤ 6) : zbest g (2 ^ g 0) < 64 := by
  have hp : 2 ^ g 0 ≤ 2 ^ 6 := Nat.pow_le_pow_right (by omega) h
  have h1 : ∀ s, 0 < s → zbest g s < s := by
    intro s
    induction s with
    | zero => intro h; omega
    | succ s ih =>
      intro _
      unfold zbest
      split
      · omega
      · by_cases z : 0 < s
        · have := ih z; omega
        · rw [show s = 0 by omega]; show 0 < 1; omega
  have := h1 (2 ^ g 0) (Nat.pow_pos (by omega))
  omega
section HL
variable {X d : Nat} {mem : zMem} {lk : zLk} {L : List Nat} {Q : Option Value → zMem → Prop} {g : zH}
theorem ok_isLoad {s : Nat} (hd : 2 < d) (hh : zHo lk 10000) (hb : zHB mem 10000 g) (wf : zWF g) (hs : s < 64) (q1 : zload g s = true → Q (some (.int (nI 1))) mem) (q0 : ¬ zload g s = true → Q (some (.int (nI 0))) mem) : zOk X d 21 [.ref 10000, .int (nI s)] mem lk L lk L Q := by
  have w0 := wf.1
  have w2 := wf.2.2.2.1
  have w3 := wf.2.2.2.2.1
  have e2 : mem (10000 + 2) = nI (g 2) := hb.k 2 (by omega)
  have e3 : mem (10000 + 3) = nI (g 3) := hb.k 3 (by omega)
  have h11 := zbits64 (g := g) (p := 11) w0
  obtain ⟨t1, t2⟩ := zand_t s hs _ h11
  have hw := zW54 wf s
  have hpc := zpc_le s
  unfold zload at q1 q0
  rw [decide_eq_true_eq] at q1 q0
  refine zOk_do 60 (tbl := tX2_isLoad) zck_21 rfl (by omega) (h := ?_)
  refine ⟨by rw [hh.k3]; rfl, ok_served (by omega) hh hb w0 wf.at11 ?_⟩
  refine ⟨fun c => ⟨rfl, rfl, rfl, q0 (fun z => ?_)⟩, fun c => ok_bitCount (by omega) hs ⟨hh.k3, fun c2 => ⟨rfl, rfl, rfl, q0 (fun z => ?_)⟩, fun c2 => ⟨by rw [hh.k3]; rfl, ok_weightOf (by omega) hh hb wf hs ⟨hh.k3, fun c3 => ⟨rfl, rfl, rfl, q0 (fun z => ?_)⟩, fun c3 => ⟨rfl, rfl, rfl, q1 ⟨?_, ?_, ?_⟩⟩⟩⟩⟩⟩
  · have c : ¬ nI s &&& nI (zbits g 11 (g 0)) = 0 := c
    rw [t1] at c
    exact c (by rw [n0 (by omega)]; exact z.1)
  · have c2 : mem (10000 + 2) < nI (zpc s) := c2
    rw [e2, nLt (by omega) (by omega)] at c2
    have := z.2.1
    omega
  · have c3 : mem (10000 + 3) < nI (zsum g 25 s (g 0)) := c3
    rw [e3, nLt (by omega) (by omega)] at c3
    have := z.2.2
    omega
  · have c : nI s &&& nI (zbits g 11 (g 0)) = 0 := c
    rw [t1, n0 (by omega)] at c
    exact c
  · have c2 : ¬ mem (10000 + 2) < nI (zpc s) := c2
    rw [e2, nLt (by omega) (by omega)] at c2
    omega
  · have c3 : ¬ mem (10000 + 3) < nI (zsum g 25 s (g 0)) := c3
    rw [e3, nLt (by omega) (by omega)] at c3
    omega
theorem ok_isFuller {s b : Nat} (hd : 2 < d) (hh : zHo lk 10000) (hb : zHB mem 10000 g) (wf : zWF g) (hs : s < 64) (hs2 : b < 64) (q1 : zfuller g s b = true → Q (some (.int (nI 1))) mem) (q0 : ¬ zfuller g s b = true → Q (some (.int (nI 0))) mem) : zOk X d 24 [.ref 10000, .int (nI s), .int (nI b)] mem lk L lk L Q := by
  have hw := zW54 wf s
  have hw2 := zW54 wf b
  have hpc := zpc_le s
  have hpc2 := zpc_le b
  unfold zfuller at q1 q0
  rw [decide_eq_true_eq] at q1 q0
  refine zOk_do 60 (tbl := tX2_isFuller) zck_24 rfl (by omega) (h := ?_)
  refine ⟨by rw [hh.k3]; rfl, ok_weightOf (by omega) hh hb wf hs ⟨by rw [hh.k3]; rfl, ok_weightOf (by omega) hh hb wf hs2 ⟨fun c => ⟨rfl, rfl, rfl, q1 (Or.inl ?_)⟩, fun c => ⟨fun c2 => ⟨rfl, rfl, rfl, q0 (fun z => ?_)⟩, fun c2 => ok_bitCount (by omega) hs (ok_bitCount (by omega) hs2 ⟨fun c3 => ⟨rfl, rfl, rfl, q0 (fun z => ?_)⟩, fun c3 => ⟨rfl, rfl, rfl, q1 (Or.inr ⟨?_, ?_⟩)⟩⟩)⟩⟩⟩⟩
  · have c : (0 : Int32) < nI (zsum g 25 s (g 0)) - nI (zsum g 25 b (g 0)) := c
    rw [i_lt, i_0, nsubT (by omega) (by omega)] at c
    omega
  · have c : ¬ (0 : Int32) < nI (zsum g 25 s (g 0)) - nI (zsum g 25 b (g 0)) := c
    have c2 : ¬ nI (zsum g 25 s (g 0)) - nI (zsum g 25 b (g 0)) = 0 := c2
    rw [i_lt, i_0, nsubT (by omega) (by omega)] at c
    rw [nsub_0 (by omega) (by omega)] at c2
    omega
  · have c : ¬ (0 : Int32) < nI (zsum g 25 s (g 0)) - nI (zsum g 25 b (g 0)) := c
    have c3 : nI (zpc s) ≤ nI (zpc b) := c3
    rw [i_lt, i_0, nsubT (by omega) (by omega)] at c
    rw [nLe (by omega) (by omega)] at c3
    omega
  · have c2 : nI (zsum g 25 s (g 0)) - nI (zsum g 25 b (g 0)) = 0 := c2
    rw [nsub_0 (by omega) (by omega)] at c2
    omega
  · have c3 : ¬ nI (zpc s) ≤ nI (zpc b) := c3
    rw [nLe (by omega) (by omega)] at c3
    omega
theorem loads_loop (hd : 3 < d) (hh : zHo lk 10000) (hb : zHB mem 10000 g) (wf : zWF g) (q : Q (some (.int (nI (zloads g (2 ^ g 0))))) mem) : ∀ m s, s + m = 2 ^ g 0 → zE X d 22 4 [.ref 10000, .int (nI (zloads g s)), .int (nI s)] [] mem lk L lk L Q := by
  have w0 := wf.1
  have hp : 2 ^ g 0 ≤ 2 ^ 6 := Nat.pow_le_pow_right (by omega) w0
  have hp0 : 0 < 2 ^ g 0 := Nat.pow_pos (by omega)
  intro m
  induction m with
  | zero =>
    intro s hs
    have c1 : nI (2 ^ g 0 - 1) < nI s := by rw [nLt (by omega) (by omega)]; omega
    refine zE_do 60 4 (tbl := tX2_loads) zck_22 rfl (h := ?_)
    refine ⟨by rw [hh.k3]; rfl, ok_all (by omega) hh hb w0 ⟨fun _ => ⟨rfl, rfl, ?_⟩, fun c => absurd c1 c⟩⟩
    rw [show s = 2 ^ g 0 by omega]; exact q
  | succ m ih =>
    intro s hs
    have c1 : ¬ nI (2 ^ g 0 - 1) < nI s := by rw [nLt (by omega) (by omega)]; omega
    have k := ih (s + 1) (by omega)
    rw [show nI (s + 1) = nI s + nI 1 from (nI_add s 1).symm] at k
    unfold zloads at k
    refine zE_do 60 4 (tbl := tX2_loads) zck_22 rfl (h := ?_)
    refine ⟨by rw [hh.k3]; rfl, ok_all (by omega) hh hb w0 ⟨fun c => absurd c c1, fun _ => ok_isLoad (by omega) hh hb wf (by omega) (fun z => zT_eq ?_) (fun z => zF_eq ?_)⟩⟩
    · rw [if_pos z, show nI (zloads g s + 1) = nI (zloads g s) + nI 1 from (nI_add _ 1).symm] at k
      exact k
    · rw [if_neg z, show nI (zloads g s + 0) = nI (zloads g s) + nI 0 from (nI_add _ 0).symm] at k
      exact k
theorem ok_loads (hd : 3 < d) (hh : zHo lk 10000) (hb : zHB mem 10000 g) (wf : zWF g) (q : Q (some (.int (nI (zloads g (2 ^ g 0))))) mem) : zOk X d 22 [.ref 10000] mem lk L lk L Q := by
  refine zOk_do 20 (tbl := tX2_loads) zck_22 rfl (by omega) (h := ?_)
  exact loads_loop hd hh hb wf q (2 ^ g 0) 0 (by omega)
theorem fullest_loop (hd : 3 < d) (hh : zHo lk 10000) (hb : zHB mem 10000 g) (wf : zWF g) (q : Q (some (.int (nI (zbest g (2 ^ g 0))))) mem) : ∀ m s, s + m = 2 ^ g 0 → zE X d 23 4 [.ref 10000, .int (nI (zbest g s)), .int (nI s)] [] mem lk L lk L Q := by
  have w0 := wf.1
  have hp : 2 ^ g 0 ≤ 2 ^ 6 := Nat.pow_le_pow_right (by omega) w0
  have hp0 : 0 < 2 ^ g 0 := Nat.pow_pos (by omega)
  intro m
  induction m with
  | zero =>
    intro s hs
    have c1 : nI (2 ^ g 0 - 1) < nI s := by rw [nLt (by omega) (by omega)]; omega
    refine zE_do 60 4 (tbl := tX2_fullestLoad) zck_23 rfl (h := ?_)
    refine ⟨by rw [hh.k3]; rfl, ok_all (by omega) hh hb w0 ⟨fun _ => ⟨rfl, rfl, ?_⟩, fun c => absurd c1 c⟩⟩
    rw [show s = 2 ^ g 0 by omega]; exact q
  | succ m ih =>
    intro s hs
    have c1 : ¬ nI (2 ^ g 0 - 1) < nI s := by rw [nLt (by omega) (by omega)]; omega
    have k := ih (s + 1) (by omega)
    rw [show nI (s + 1) = nI s + nI 1 from (nI_add s 1).symm] at k
    unfold zbest at k
    refine zE_do 60 4 (tbl := tX2_fullestLoad) zck_23 rfl (h := ?_)
    refine ⟨by rw [hh.k3]; rfl, ok_all (by omega) hh hb w0 ⟨fun c => absurd c c1, fun _ => ok_isLoad (by omega) hh hb wf (by omega) (fun z => zT_eq ?_) (fun z => zF_eq ?_)⟩⟩
    · refine ok_isFuller (by omega) hh hb wf (by omega) (zbest_lt g (by omega)) (fun z2 => zT_eq ?_) (fun z2 => zF_eq ?_)
      · rw [if_pos ⟨z, z2⟩] at k
        exact k
      · rw [if_neg (fun y => z2 y.2)] at k
        exact k
    · rw [if_neg (fun y => z y.1)] at k
      exact k
theorem ok_fullestLoad (hd : 3 < d) (hh : zHo lk 10000) (hb : zHB mem 10000 g) (wf : zWF g) (q : Q (some (.int (nI (zbest g (2 ^ g 0))))) mem) : zOk X d 23 [.ref 10000] mem lk L lk L Q := by
  have hp0 : 0 < 2 ^ g 0 := Nat.pow_pos (by omega)
  have e1 : zbest g 1 = 0 := by
    show (if _ then 0 else 0) = 0
    split <;> rfl
  have k := fullest_loop (X := X) (L := L) hd hh hb wf q (2 ^ g 0 - 1) 1 (by omega)
  rw [e1] at k
  refine zOk_do 20 (tbl := tX2_fullestLoad) zck_23 rfl (by omega) (h := ?_)
  exact k
theorem ok_holds {w : Int32} (hd : 4 < d) (hk : zKs lk) (hh : zHo lk 10000) (hb : zHB mem 10000 g) (hN : zNow g) (qS : g 0 = 0 → Q (some (.int (-(nI 1000002)))) mem) (q : 0 < g 0 → Q (some (.int (zholdsA g w))) mem) : zOk X d 114 [.ref 100, .int w] mem lk L lk L Q := by
  refine zOk_do 80 (tbl := tX7_holds) zck_114 rfl (by omega) (h := ?_)
  refine ⟨rfl, _, hk.at 102 10000, by rw [hh.k3]; rfl, ok_stands (by omega) hh hb hN.le.1 (fun h0 => zT_ne ?_) (fun h0 => zF_ne ⟨rfl, rfl, qS h0⟩)⟩
  have wf := (hN.wf h0).1
  have q := q h0
  unfold zholdsA at q
  refine ⟨fun c => ?_, fun c0 => ⟨fun c => ?_, fun c1 => ⟨fun c => ?_, fun c2 => ⟨rfl, rfl, ?_⟩⟩⟩⟩
  · rw [if_pos c] at q
    exact ⟨rfl, _, hk.at 102 10000, ok_loads (by omega) hh hb wf ⟨rfl, rfl, q⟩⟩
  · rw [if_neg c0, if_pos c] at q
    exact ⟨rfl, _, hk.at 102 10000, ok_fullestLoad (by omega) hh hb wf ⟨rfl, rfl, q⟩⟩
  · rw [if_neg c0, if_neg c1, if_pos c] at q
    exact ⟨rfl, _, hk.at 102 10000, rfl, _, hk.at 102 10000, ok_fullestLoad (by omega) hh hb wf ⟨by rw [hh.k3]; rfl, ok_weightOf (by omega) hh hb wf (zbest63 wf.1) ⟨rfl, rfl, q⟩⟩⟩
  · rw [if_neg c0, if_neg c1, if_neg c2] at q; exact q
theorem mholds_loop {w : Nat} (hwt : w ≤ 2) (hd : 2 < d) (hk : zML lk) (hb : zHB mem 2000 g) (wf : zWF g) (q : Q (some (.int (zholdsA g (nI w)))) mem) : ∀ m s v5 v6, s + m = 2 ^ g 0 → zE X d 193 32 [.ref 1000, .int (nI w), .int (nI (zloads g s)), .int (nI (zbest g s)), .int (nI s), v5, v6] [] mem lk L lk L Q := by
  have w0 := wf.1
  have w2 := wf.2.2.2.1
  have w3 := wf.2.2.2.2.1
  have hp : 2 ^ g 0 ≤ 2 ^ 6 := Nat.pow_le_pow_right (by omega) w0
  have e0 : mem (2000 + (nI 0).toNatClampNeg) = nI (g 0) := hb.k 0 (by omega)
  have e2 : mem (2000 + (nI 2).toNatClampNeg) = nI (g 2) := hb.k 2 (by omega)
  have e3 : mem (2000 + (nI 3).toNatClampNeg) = nI (g 3) := hb.k 3 (by omega)
  have h11 := zbits64 (g := g) (p := 11) w0
  intro m
  induction m with
  | zero =>
    intro s v5 v6 hs
    have es : s = 2 ^ g 0 := by omega
    unfold zholdsA at q
    refine zE_do 60 32 (tbl := tX8_holds) zck_193 rfl (h := ?_)
    refine ⟨rfl, _, hk.1, Or.inl rfl, zwi0 (by omega), fun _ => ⟨fun c => ⟨fun c2 => ⟨rfl, ok_mweightOf (r := 0) (by omega) hk.1 (by omega) hb w0 (by rw [es]; exact zbest63 w0) ⟨rfl, rfl, ?_⟩⟩, fun c2 => ⟨rfl, rfl, ?_⟩⟩, fun c => ⟨rfl, rfl, ?_⟩⟩, fun c => ?_⟩
    · have c : ¬ nI w = nI 0 := c
      have c2 : ¬ nI w = nI 1 := c2
      rw [nEq (by omega) (by omega)] at c c2
      rw [if_neg (by rw [nEq (by omega) (by omega)]; exact c), if_neg (by rw [nEq (by omega) (by omega)]; exact c2), if_pos (by rw [show w = 2 by omega])] at q
      rw [es]; exact q
    · have c : ¬ nI w = nI 0 := c
      have c2 : nI w = nI 1 := c2
      rw [if_neg c, if_pos c2] at q
      rw [es]; exact q
    · have c : nI w = nI 0 := c
      rw [if_pos c] at q
      rw [es]; exact q
    · exfalso
      have c : ¬ nI 1 <<< (mem (2000 + (nI 0).toNatClampNeg) &&& 31) ≤ nI s := c
      rw [e0, zsl_t _ w0, nLe (by omega) (by omega)] at c
      omega
  | succ m ih =>
    intro s v5 v6 hs
    have hs6 : s < 64 := by omega
    have hbs := zbest_lt g hs6
    obtain ⟨t1, t2⟩ := zand_t s hs6 _ h11
    have hw := zW54 wf s
    have hw2 := zW54 wf (zbest g s)
    have hpc := zpc_le s
    have hpc2 := zpc_le (zbest g s)
    have k := fun v5 v6 => ih (s + 1) v5 v6 (by omega)
    rw [show nI (s + 1) = nI s + nI 1 from (nI_add s 1).symm] at k
    unfold zloads zbest at k
    have kno : ¬ zload g s = true → ∀ v5 v6, zE X d 193 32 [.ref 1000, .int (nI w), .int (nI (zloads g s)), .int (nI (zbest g s)), .int (nI s + nI 1), v5, v6] [] mem lk L lk L Q := fun z v5 v6 => by
      have k := k v5 v6
      rw [if_neg z, if_neg (fun y => z y.1)] at k
      exact k
    have kold : zload g s = true → ¬ zfuller g s (zbest g s) = true → ∀ v5 v6, zE X d 193 32 [.ref 1000, .int (nI w), .int (nI (zloads g s) + nI 1), .int (nI (zbest g s)), .int (nI s + nI 1), v5, v6] [] mem lk L lk L Q := fun z z2 v5 v6 => by
      have k := k v5 v6
      rw [if_pos z, if_neg (fun y => z2 y.2), show nI (zloads g s + 1) = nI (zloads g s) + nI 1 from (nI_add _ 1).symm] at k
      exact k
    have knew : zload g s = true → zfuller g s (zbest g s) = true → ∀ v5 v6, zE X d 193 32 [.ref 1000, .int (nI w), .int (nI (zloads g s) + nI 1), .int (nI s), .int (nI s + nI 1), v5, v6] [] mem lk L lk L Q := fun z z2 v5 v6 => by
      have k := k v5 v6
      rw [if_pos z, if_pos ⟨z, z2⟩, show nI (zloads g s + 1) = nI (zloads g s) + nI 1 from (nI_add _ 1).symm] at k
      exact k
    unfold zload at kno kold knew
    unfold zfuller at kold knew
    rw [decide_eq_true_eq] at kno kold knew
    rw [decide_eq_true_eq] at kold knew
    refine zE_do 90 32 (tbl := tX8_holds) zck_193 rfl (h := ?_)
    refine ⟨rfl, _, hk.1, Or.inl rfl, zwi0 (by omega), fun c => ?_, fun _ => ⟨rfl, ok_mweightOf (r := 0) (by omega) hk.1 (by omega) hb w0 hs6 ⟨rfl, ok_mservedOf (r := 0) (by omega) hk.1 (by omega) hb w0 wf.at11 ?_⟩⟩⟩
    · exfalso
      have c : nI 1 <<< (mem (2000 + (nI 0).toNatClampNeg) &&& 31) ≤ nI s := c
      rw [e0, zsl_t _ w0, nLe (by omega) (by omega)] at c
      omega
    · refine ⟨fun c => kno (fun z => ?_) _ _, fun c => ok_ones (by omega) hs6 ⟨rfl, _, hk.1, Or.inl rfl, zwi0 (by omega), fun c2 => kno (fun z => ?_) _ _, fun c2 => ⟨rfl, _, hk.1, Or.inl rfl, zwi0 (by omega), fun c3 => kno (fun z => ?_) _ _, fun c3 => ⟨rfl, ok_mweightOf (r := 0) (by omega) hk.1 (by omega) hb w0 hbs ?_⟩⟩⟩⟩
      · have c : ¬ nI s &&& nI (zbits g 11 (g 0)) = 0 := c
        rw [t1] at c
        exact c (by rw [n0 (by omega)]; exact z.1)
      · have c2 : mem (2000 + (nI 2).toNatClampNeg) < nI (zpc s) := c2
        rw [e2, nLt (by omega) (by omega)] at c2
        have := z.2.1
        omega
      · have c3 : mem (2000 + (nI 3).toNatClampNeg) < nI (zsum g 25 s (g 0)) := c3
        rw [e3, nLt (by omega) (by omega)] at c3
        have := z.2.2
        omega
      · have c : nI s &&& nI (zbits g 11 (g 0)) = 0 := c
        have c2 : ¬ mem (2000 + (nI 2).toNatClampNeg) < nI (zpc s) := c2
        have c3 : ¬ mem (2000 + (nI 3).toNatClampNeg) < nI (zsum g 25 s (g 0)) := c3
        rw [t1, n0 (by omega)] at c
        rw [e2, nLt (by omega) (by omega)] at c2
        rw [e3, nLt (by omega) (by omega)] at c3
        have hl : s &&& zbits g 11 (g 0) = 0 ∧ zpc s ≤ g 2 ∧ zsum g 25 s (g 0) ≤ g 3 := ⟨c, by omega, by omega⟩
        have kold := kold hl
        have knew := knew hl
        refine ⟨fun c4 => knew (Or.inl ?_) _ _, fun c4 => ⟨fun c5 => kold (fun z => ?_) _ _, fun c5 => ok_ones (by omega) hs6 (ok_ones (by omega) hbs ⟨fun c6 => kold (fun z => ?_) _ _, fun c6 => knew (Or.inr ⟨?_, ?_⟩) _ _⟩)⟩⟩
        · have c4 : nI (zsum g 25 (zbest g s) (g 0)) < nI (zsum g 25 s (g 0)) := c4
          rw [nLt (by omega) (by omega)] at c4
          exact c4
        · have c4 : ¬ nI (zsum g 25 (zbest g s) (g 0)) < nI (zsum g 25 s (g 0)) := c4
          have c5 : ¬ nI (zsum g 25 s (g 0)) = nI (zsum g 25 (zbest g s) (g 0)) := c5
          rw [nLt (by omega) (by omega)] at c4
          rw [nEq (by omega) (by omega)] at c5
          omega
        · have c4 : ¬ nI (zsum g 25 (zbest g s) (g 0)) < nI (zsum g 25 s (g 0)) := c4
          have c6 : nI (zpc s) ≤ nI (zpc (zbest g s)) := c6
          rw [nLt (by omega) (by omega)] at c4
          rw [nLe (by omega) (by omega)] at c6
          omega
        · have c5 : nI (zsum g 25 s (g 0)) = nI (zsum g 25 (zbest g s) (g 0)) := c5
          rw [nEq (by omega) (by omega)] at c5
          omega
        · have c6 : ¬ nI (zpc s) ≤ nI (zpc (zbest g s)) := c6
          rw [nLe (by omega) (by omega)] at c6
          omega
theorem ok_mholds {x : Int32} (hd : 3 < d) (hk : zML lk) (hb : zHB mem 2000 g) (hN : zNow g) (qS : g 0 = 0 → Q (some (.int (-(nI 1000002)))) mem) (q : 0 < g 0 → Q (some (.int (zholdsA g x))) mem) : zOk X d 193 [.ref 1000, .int x] mem lk L lk L Q := by
  refine zOk_do 80 (tbl := tX8_holds) zck_193 rfl (by omega) (h := ?_)
  refine ⟨rfl, ok_misHouse (by omega) hk.1 hb hN.le.1 (fun h0 => zT_ne ?_) (fun h0 => zF_ne ⟨rfl, rfl, qS h0⟩)⟩
  have wf := (hN.wf h0).1
  have q := q h0
  refine ok_min (a := 0) (b := 2) (by omega) (by omega) (by omega) (fun c => zF_ne ⟨rfl, rfl, ?_⟩) (fun w h1 h2 ex => zT_ne ?_)
  · unfold zholdsA at q
    have hx : ∀ w, w ≤ 2 → x ≠ nI w := by
      intro w hw z
      rw [z, nT (by omega)] at c
      omega
    rw [if_neg (hx 0 (by omega)), if_neg (hx 1 (by omega)), if_neg (hx 2 (by omega))] at q
    exact q
  · subst ex
    exact mholds_loop h2 (by omega) hk hb wf q (2 ^ g 0) 0 _ _ (by omega)
end HL
