/-! DishLift$Orders: weigh, isNeedless, fill, search -/
def zOm (mem : zMem) (o : Nat → Nat) : Prop := ∀ k, k < 6 → mem (750 + k) = nI (o k) ∧ o k < 6
def zSOm (mem : zMem) (N : Nat) (S : Nat × (Nat → Int32)) : Prop := mem 745 = nI S.1 ∧ S.1 < 2147483648 ∧ ∀ j, j < N → mem (760 + j) = S.2 j
def zofr (mem mem' : zMem) : Prop := ∀ x, x ≠ 745 → ¬ (750 ≤ x ∧ x < 756) → ¬ (760 ≤ x ∧ x < 766) → ¬ (10192 ≤ x ∧ x < 10192 + 37) → mem' x = mem x
theorem zofr.rf {mem : zMem} : zofr mem mem := fun _ _ _ _ _ => rfl
theorem zofr.tr {m1 m2 m3 : zMem} (h : zofr m1 m2) (h' : zofr m2 m3) : zofr m1 m3 := fun x a b c e => (h' x a b c e).trans (h x a b c e)
theorem zfr.o {m1 m2 : zMem} (h : zfr m1 m2 10192) : zofr m1 m2 := fun x _ _ _ e => h x e
theorem zOm.fr {m1 m2 : zMem} {o : Nat → Nat} (h : zOm m1 o) (hf : ∀ x, 750 ≤ x → x < 756 → m2 x = m1 x) : zOm m2 o := fun k hk => by rw [hf _ (by omega) (by omega)]; exact h k hk
theorem zSOm.fr {m1 m2 : zMem} {N : Nat} {S : Nat × (Nat → Int32)} (h : zSOm m1 N S) (hN : N ≤ 6) (hf : ∀ x, x = 745 ∨ (760 ≤ x ∧ x < 766) → m2 x = m1 x) : zSOm m2 N S := ⟨by rw [hf 745 (Or.inl rfl)]; exact h.1, h.2.1, fun j hj => by rw [hf _ (Or.inr (by omega))]; exact h.2.2 j hj⟩
theorem zcnt_all {g : zH} {p : Nat} : ∀ i, zcnt g p i = i → ∀ e, e < i → g (13 + e) = p
  | 0, _, e, he => by omega
  | i + 1, h, e, he => by
    have h1 : zcnt g p i + (if g (13 + i) = p then 1 else 0) = i + 1 := h
    have h2 := zcnt_le g p i
    have h3 : g (13 + i) = p := by
      by_cases z : g (13 + i) = p
      · exact z
      · rw [if_neg z] at h1; omega
    rw [if_pos h3] at h1
    by_cases z : e = i
    · subst z; exact h3
    · exact zcnt_all i (by omega) e (by omega)
theorem zcnt_full {g : zH} {p : Nat} : ∀ i, (∀ e, e < i → g (13 + e) = p) → zcnt g p i = i
  | 0, _ => rfl
  | i + 1, h => by
    show zcnt g p i + (if g (13 + i) = p then 1 else 0) = i + 1
    rw [zcnt_full i (fun e he => h e (by omega)), if_pos (h i (by omega))]
theorem zco_0 {o : Nat → Nat} : ∀ m g, zWF g → g 6 + m ≤ 999999 → zop g = 0 → zco o m g = 0
  | 0, _, _, _, h => h
  | m + 1, g, wf, h6, h => by
    have h1 : zcnt g 11 (g 0) = g 0 := by
      have := zcnt_le g 11 (g 0)
      unfold zop at h
      omega
    have p0 : zpass o g 0 = g 0 := zpass_ne wf.1 (by omega) (by omega) (by omega) (by omega)
    have p6 : zpass o g 6 = g 6 + 1 := zpass_6 wf.1
    have h2 : zop (zpass o g) = 0 := by
      unfold zop
      rw [p0, zcnt_full (g 0) (fun e he => zpass_srv wf he (zcnt_all (g 0) h1 e he))]
      omega
    show zop g + zco o m (zpass o g) = 0
    rw [h, zco_0 m (zpass o g) (zpass_wf wf (by omega)) (by omega) h2]
def zrst (o : Nat → Nat) : Nat → zH → Nat
  | 0, _ => 0
  | m + 1, h => zco o m h
def zub (o : Nat → Nat) : Nat → Nat
  | 0 => 0
  | k + 1 => zub o k ||| 2 ^ o k
theorem zor6_t : ∀ i, i < 6 → ∀ a, a < 64 → a ||| 2 ^ i < 64 ∧ ∀ d, d < 6 → (a ||| 2 ^ i) / 2 ^ d % 2 = if d = i then 1 else a / 2 ^ d % 2 := by decide +kernel
theorem zub_lt {o : Nat → Nat} : ∀ k, (∀ j, j < k → o j < 6) → zub o k < 64
  | 0, _ => by show 0 < 64; omega
  | k + 1, h => (zor6_t (o k) (h k (by omega)) _ (zub_lt k (fun j hj => h j (by omega)))).1
theorem zub_bit {o : Nat → Nat} {d : Nat} (hd : d < 6) : ∀ k, (∀ j, j < k → o j < 6) → zub o k / 2 ^ d % 2 = if zud o k d = true then 1 else 0
  | 0, _ => by
    show 0 / 2 ^ d % 2 = if (false : Bool) = true then 1 else 0
    rw [Nat.zero_div]; rfl
  | k + 1, h => by
    show (zub o k ||| 2 ^ o k) / 2 ^ d % 2 = if (zud o k d || decide (o k = d)) = true then 1 else 0
    rw [(zor6_t (o k) (h k (by omega)) _ (zub_lt k (fun j hj => h j (by omega)))).2 d hd, zub_bit hd k (fun j hj => h j (by omega))]
    by_cases z : d = o k
    · rw [if_pos z, if_pos (by rw [decide_eq_true z.symm, Bool.or_true])]
    · rw [if_neg z, decide_eq_false (fun y => z y.symm), Bool.or_false]
theorem zub_ext {o o' : Nat → Nat} : ∀ k, (∀ j, j < k → o j = o' j) → zub o k = zub o' k
  | 0, _ => rfl
  | k + 1, h => by
    show zub o k ||| 2 ^ o k = zub o' k ||| 2 ^ o' k
    rw [zub_ext k (fun j hj => h j (by omega)), h k (by omega)]
section OR
variable {X d : Nat} {mem : zMem} {lk : zLk} {L : List Nat} {Q : Option Value → zMem → Prop} {g : zH} {n : Nat}
theorem weigh_fin {c N : Nat} {o : Nat → Nat} {v2 v3 : Value} {S : Nat × (Nat → Int32)} (hk : zKs lk) (hO : zOm mem o) (hN : N ≤ 6) (hc : c < 2147483648)
    (q : ∀ mem', zOm mem' o → zSOm mem' N (c, fun j => if j < N then nI (o j) else nI 0) → zofr mem mem' → Q none mem') : zE X d 68 80 [.ref 740, .int (nI c), v2, v3] [] mem lk L lk L Q := by
  have z0' : (nI 0).toNatClampNeg = 0 := nC (by omega)
  have z6 : (nI 6).toNatClampNeg = 6 := nC (by omega)
  refine zE_do 60 80 (tbl := tX4_weigh) zck_68 rfl (h := ?_)
  refine ⟨rfl, rfl, _, hk.at 742 750, rfl, _, hk.at 743 760, rfl, rfl, nge0 (by omega), nge0 (by omega), nge0 (by omega), ?_, ?_, rfl, rfl, ?_⟩
  · rw [z0', z6]; exact Nat.le_refl 6
  · rw [z0', z6]; exact Nat.le_refl 6
  · refine q _ (fun k hk6 => ?_) ⟨?_, hc, fun j hj => ?_⟩ (fun x h1 h2 h3 h4 => ?_)
    · rw [z0', z6, if_neg (by omega), upd_ne (by omega)]
      exact hO k hk6
    · dsimp only
      rw [z0', z6, if_neg (by omega)]
      exact upd_eq
    · dsimp only
      rw [z0', z6, if_pos (by omega), if_pos hj, show 750 + 0 + (760 + j - (760 + 0)) = 750 + j by omega, upd_ne (by omega)]
      exact (hO j (by omega)).1
    · rw [z0', z6, if_neg (by omega), upd_ne h1]
theorem weigh_loop {o : Nat → Nat} {S : Nat × (Nat → Int32)} (hn : n ≤ 40) (hd : 3 < d) (hk : zKs lk) (ht : zHo lk 10192) (wf : zWF g) (h6 : g 6 ≤ 999) : ∀ m k c h mem v3, k + m = n + 1 → c ≤ 6 * k → c + zrst o m h = zco o n g → (0 < k → c < S.1) → zHB mem 10192 h → zWF h → h 0 = g 0 → h 6 + m ≤ 999999 → mem 744 = nI n → zOm mem o → zSOm mem (g 0) S →
    (∀ mem', zOm mem' o → zSOm mem' (g 0) (zwS (fun o => zco o n g) (g 0) o S) → zofr mem mem' → Q none mem') → zE X d 68 15 [.ref 740, .int (nI c), .int (nI k), v3] [] mem lk L lk L Q := by
  have w0 := wf.1
  intro m
  induction m with
  | zero =>
    intro k c h mem v3 hk1 hck hC hcS hb wh h0 hh6 e744 hO hSm q
    have e744' : mem (740 + 4) = nI n := e744
    have hC : c + 0 = zco o n g := hC
    have eC : zco o n g = c := by omega
    have hw : zwS (fun o => zco o n g) (g 0) o S = (zco o n g, fun j => if j < g 0 then nI (o j) else nI 0) := if_pos (show zco o n g < S.1 by rw [eC]; exact hcS (by omega))
    rw [hw, eC] at q
    refine zgoc [80] 60 15 (tbl := tX4_weigh) zck_68 rfl (h := ?_)
    refine ⟨rfl, fun _ => weigh_fin (S := S) hk hO w0 (by omega) q, fun cc => ?_⟩
    exfalso
    have cc : ¬ mem (740 + 4) < nI k := cc
    rw [e744', nLt (by omega) (by omega)] at cc
    omega
  | succ m ih =>
    intro k c h mem v3 hk1 hck hC hcS hb wh h0 hh6 e744 hO hSm q
    have e744' : mem (740 + 4) = nI n := e744
    have e745' : mem (740 + 5) = nI S.1 := hSm.1
    have hS31 := hSm.2.1
    have hh := wh.1
    have e0 : mem (10192 + 0) = nI (h 0) := hb.k 0 (by omega)
    have hcn := zcnt_le h 11 (h 0)
    have hpc := zpc_bits h 11 (h 0) hh
    have eo : nI (h 0) - nI (zpc (zbits h 11 (h 0))) = nI (zop h) := by
      rw [hpc, nsub hcn (by omega)]; rfl
    have hop : zop h ≤ 6 := Nat.le_trans zop_le hh
    have hC : c + zco o m h = zco o n g := hC
    have hge : zop h ≤ zco o m h := by
      cases m with
      | zero => exact Nat.le_refl _
      | succ m => show zop h ≤ zop h + _; omega
    refine zgoc [80] 60 15 (tbl := tX4_weigh) zck_68 rfl (h := ?_)
    refine ⟨rfl, fun cc => ?_, fun _ => ⟨rfl, _, hk.at 740 10192, ht.k3, rfl, _, hk.at 740 10192, by rw [ht.k3]; rfl, ok_served (by omega) ht hb hh wh.at11 (ok_bitCount (by omega) (zbits64 hh) ⟨rfl, fun c1 => ?_, fun c1 => ⟨rfl, rfl, ?_⟩⟩)⟩⟩
    · exfalso
      have cc : mem (740 + 4) < nI k := cc
      rw [e744', nLt (by omega) (by omega)] at cc
      omega
    · have c1 : nI c + (mem (10192 + 0) - nI (zpc (zbits h 11 (h 0)))) < mem (740 + 5) := c1
      rw [e0, eo, nI_add, e745', nLt (by omega) hS31] at c1
      refine ⟨fun c2 => ?_, fun c2 => ?_⟩
      · have c2 : ¬ mem (10192 + 0) - nI (zpc (zbits h 11 (h 0))) = 0 := c2
        rw [e0, eo, n0 (by omega)] at c2
        refine ⟨rfl, _, hk.at 740 10192, rfl, _, hk.at 742 750, by rw [ht.k3]; rfl, ok_pass (by omega) ht hb wh (by omega) ⟨Or.inl rfl, rfl, fun k hk => hO k hk, Or.inl (by omega)⟩ (fun m1 hb1 f1 => ?_)⟩
        have p0 : zpass o h 0 = h 0 := zpass_ne hh (by omega) (by omega) (by omega) (by omega)
        have p6 : zpass o h 6 = h 6 + 1 := zpass_6 hh
        have k1 := ih (k + 1) (c + zop h) (zpass o h) m1 (.int (nI (zop h))) (by omega) (by omega) (by
          cases m with
          | zero => show c + zop h + 0 = _; have : c + zop h = zco o n g := hC; omega
          | succ m => show c + zop h + zco o m (zpass o h) = _; have : c + (zop h + zco o m (zpass o h)) = zco o n g := hC; omega) (fun _ => c1) hb1 (zpass_wf wh (by omega)) (by omega) (by omega) (by rw [f1 _ (by omega)]; exact e744) (hO.fr (fun x _ _ => f1 x (by omega))) (hSm.fr w0 (fun x hx => f1 x (by omega))) (fun m2 a1 a2 f2 => q m2 a1 a2 (f1.o.tr f2))
        rw [show nI (k + 1) = nI k + nI 1 from (nI_add k 1).symm, ← nI_add c, ← eo, ← e0] at k1
        exact k1
      · have c2 : mem (10192 + 0) - nI (zpc (zbits h 11 (h 0))) = 0 := c2
        rw [e0, eo, n0 (by omega)] at c2
        have hz := zco_0 (o := o) m h wh (by omega) c2
        have eC : zco o n g = c := by omega
        have hw : zwS (fun o => zco o n g) (g 0) o S = (zco o n g, fun j => if j < g 0 then nI (o j) else nI 0) := if_pos (show zco o n g < S.1 by rw [eC]; omega)
        rw [hw, eC] at q
        have k1 := fun v2 v3 => weigh_fin (X := X) (d := d) (L := L) (Q := Q) (c := c) (v2 := v2) (v3 := v3) (S := S) hk hO w0 (by omega) q
        rw [show nI c = nI c + (mem (10192 + 0) - nI (zpc (zbits h 11 (h 0)))) by rw [e0, eo, c2, nI_add, Nat.add_zero]] at k1
        exact k1 _ _
    · have c1 : ¬ nI c + (mem (10192 + 0) - nI (zpc (zbits h 11 (h 0)))) < mem (740 + 5) := c1
      rw [e0, eo, nI_add, e745', nLt (by omega) hS31] at c1
      have hw : zwS (fun o => zco o n g) (g 0) o S = S := if_neg (show ¬ zco o n g < S.1 by omega)
      rw [hw] at q
      exact q mem hO hSm zofr.rf
theorem ok_weigh {o : Nat → Nat} {S : Nat × (Nat → Int32)} (hn : n ≤ 40) (hd : 3 < d) (hk : zKs lk) (ht : zHo lk 10192) (hs : zHo lk 10256) (hb : zHB mem 10256 g) (wf : zWF g) (h6 : g 6 ≤ 999) (e744 : mem 744 = nI n) (hO : zOm mem o) (hSm : zSOm mem (g 0) S)
    (q : ∀ mem', zOm mem' o → zSOm mem' (g 0) (zwS (fun o => zco o n g) (g 0) o S) → zofr mem mem' → Q none mem') : zOk X d 68 [.ref 740] mem lk L lk L Q := by
  refine zOk_do 40 (tbl := tX4_weigh) zck_68 rfl (by omega) (h := ?_)
  refine ⟨rfl, _, hk.at 740 10192, rfl, _, hk.at 741 10256, by rw [ht.k3]; rfl, ok_become (by omega) ht hs (by omega) hb wf.1 (fun m1 hb1 f1 => ?_)⟩
  exact weigh_loop hn hd hk ht wf h6 (n + 1) 0 0 g m1 _ (by omega) (by omega) (by rw [Nat.zero_add]; rfl) (fun h => by omega) hb1 wf rfl (by omega) (by rw [f1 _ (by omega)]; exact e744) (hO.fr (fun x _ _ => f1 x (by omega))) (hSm.fr wf.1 (fun x hx => f1 x (by omega))) (fun m2 a1 a2 f2 => q m2 a1 a2 (f1.o.tr f2))
theorem ok_isNeedless {o : Nat → Nat} {dep e : Nat} (hd : 0 < d) (hk : zKs lk) (hs : zHo lk 10256) (hb : zHB mem 10256 g) (wf : zWF g) (hO : zOm mem o) (hdep : dep ≤ 6) (he : e < g 0) (ho : 0 < dep → o (dep - 1) < g 0)
    (q1 : zndl g o dep e = true → Q (some (.int (nI 1))) mem) (q0 : ¬ zndl g o dep e = true → Q (some (.int (nI 0))) mem) : zOk X d 67 [.ref 740, .int (nI dep), .int (nI e)] mem lk L lk L Q := by
  have w0 := wf.1
  unfold zndl at q1 q0
  rw [decide_eq_true_eq] at q1 q0
  have he11 := wf.at11 e he
  refine zOk_do 60 (tbl := tX4_isNeedless) zck_67 rfl (by omega) (h := ?_)
  refine ⟨fun c => ?_, fun c => ⟨rfl, rfl, rfl, q0 ?_⟩⟩
  · have c : ¬ nI dep = 0 := c
    rw [n0 (by omega)] at c
    have hB := ho (by omega)
    have hb11 := wf.at11 _ hB
    have ex : nI dep - nI 1 = nI (dep - 1) := nsub (by omega) (by omega)
    have eB : mem (750 + (nI dep - nI 1).toNatClampNeg) = nI (o (dep - 1)) := by rw [ex, nC (by omega)]; exact (hO (dep - 1) (by omega)).1
    have ea : mem (10256 + (7 + 6 * 1) + (nI (o (dep - 1))).toNatClampNeg) = nI (g (13 + o (dep - 1))) := by rw [nC (by omega)]; exact hb.at hB
    have ee : mem (10256 + (7 + 6 * 1) + (nI e).toNatClampNeg) = nI (g (13 + e)) := by rw [nC (by omega)]; exact hb.at he
    refine ⟨rfl, _, hk.at 742 750, Or.inl rfl, by rw [ex]; exact vp_in_nI (show dep - 1 < 6 by omega) (by show 6 < 2 ^ 31; decide), fun c1 => ⟨rfl, rfl, rfl, q0 ?_⟩, fun c1 => ⟨rfl, _, hk.at 741 10256, hs.k3, _, hs.lk 1 (by omega), Or.inl (hs.ka 1 (by omega)), by rw [eB]; exact hs.inn (by omega), rfl, _, hk.at 741 10256, hs.k3, _, hs.lk 1 (by omega), Or.inl (hs.ka 1 (by omega)), hs.inn (by omega), fun c2 => ⟨rfl, rfl, rfl, q1 ?_⟩, fun c2 => ⟨rfl, _, hk.at 741 10256, hs.k3, _, hs.lk 1 (by omega), Or.inl (hs.ka 1 (by omega)), hs.inn (by omega), fun c3 => ⟨rfl, rfl, rfl, q0 ?_⟩, fun c3 => ⟨rfl, rfl, rfl, q1 ?_⟩⟩⟩⟩
    · have c1 : mem (750 + (nI dep - nI 1).toNatClampNeg) ≤ nI e := c1
      rw [eB, nLe (by omega) (by omega)] at c1
      exact fun z => by have := z.2.1; omega
    · have c1 : ¬ mem (750 + (nI dep - nI 1).toNatClampNeg) ≤ nI e := c1
      have c2 : ¬ mem (10256 + (7 + 6 * 1) + (mem (750 + (nI dep - nI 1).toNatClampNeg)).toNatClampNeg) = mem (10256 + (7 + 6 * 1) + (nI e).toNatClampNeg) := c2
      rw [eB, nLe (by omega) (by omega)] at c1
      rw [eB, ea, ee, nEq (by omega) (by omega)] at c2
      exact ⟨by omega, by omega, Or.inl c2⟩
    · have c2 : mem (10256 + (7 + 6 * 1) + (mem (750 + (nI dep - nI 1).toNatClampNeg)).toNatClampNeg) = mem (10256 + (7 + 6 * 1) + (nI e).toNatClampNeg) := c2
      have c3 : mem (10256 + (7 + 6 * 1) + (nI e).toNatClampNeg) < nI 10 := c3
      rw [eB, ea, ee, nEq (by omega) (by omega)] at c2
      rw [ee, nLt (by omega) (by omega)] at c3
      exact fun z => by
        rcases z.2.2 with y | y
        · exact y c2
        · omega
    · have c1 : ¬ mem (750 + (nI dep - nI 1).toNatClampNeg) ≤ nI e := c1
      have c3 : ¬ mem (10256 + (7 + 6 * 1) + (nI e).toNatClampNeg) < nI 10 := c3
      rw [eB, nLe (by omega) (by omega)] at c1
      rw [ee, nLt (by omega) (by omega)] at c3
      exact ⟨by omega, by omega, Or.inr (by omega)⟩
  · have c : nI dep = 0 := c
    rw [n0 (by omega)] at c
    exact fun z => by have := z.1; omega
theorem ok_ofill (hn : n ≤ 40) (hk : zKs lk) (ht : zHo lk 10192) (hs : zHo lk 10256) (wf : zWF g) (h6 : g 6 ≤ 999) : ∀ m dep o S mem (d : Nat) (Q : Option Value → zMem → Prop) (x y : Int32), x = nI dep → y = nI (zub o dep) → dep + m = g 0 → m + 4 < d → zvd (g 0) o dep → zHB mem 10256 g → mem 744 = nI n → zOm mem o → zSOm mem (g 0) S →
    (∀ mem' o', (∀ j, j < dep → o' j = o j) → zOm mem' o' → zSOm mem' (g 0) (zsr (fun o => zco o n g) (g 0) (zndl g) m o dep S) → zofr mem mem' → Q none mem') → zOk X d 66 [.ref 740, .int x, .int y] mem lk L lk L Q := by
  have w0 := wf.1
  have Cx : ∀ o o' : Nat → Nat, (∀ j, j < g 0 → o j = o' j) → zco o n g = zco o' n g := fun o o' h => zco_ext n g w0 h
  have ndx : ∀ o o' dep d, (∀ j, j < dep → o j = o' j) → zndl g o dep d = zndl g o' dep d := fun o o' dep d h => by
    unfold zndl
    by_cases z : 0 < dep
    · rw [h (dep - 1) (by omega)]
    · rw [decide_eq_false (fun y => z y.1), decide_eq_false (fun y => z y.1)]
  intro m
  induction m with
  | zero =>
    intro dep o S mem d Q x y ex ey hm hd hv hb e744 hO hSm q
    subst ex ey
    have e0 : mem (10256 + 0) = nI (g 0) := hb.k 0 (by omega)
    refine zOk_do 60 (tbl := tX4_fill) zck_66 rfl (by omega) (h := ?_)
    refine ⟨rfl, _, hk.at 741 10256, hs.k3, fun _ => ⟨rfl, ok_weigh hn (by omega) hk ht hs hb wf h6 e744 hO hSm (fun m1 a1 a2 f1 => ⟨rfl, rfl, q m1 o (fun _ _ => rfl) a1 a2 f1⟩)⟩, fun c => ?_⟩
    exfalso
    have c : ¬ mem (10256 + 0) ≤ nI dep := c
    rw [e0, nLe (by omega) (by omega)] at c
    omega
  | succ m ih =>
    intro dep o S mem d Q x y ex ey hm hd hv hb e744 hO hSm q
    subst ex ey
    have e0 : mem (10256 + 0) = nI (g 0) := hb.k 0 (by omega)
    have c1 : nI dep < nI 6 := by rw [nLt (by omega) (by omega)]; omega
    have hv6 : ∀ j, j < dep → o j < 6 := fun j hj => by have := hv.1 j hj; omega
    have hub := zub_lt dep hv6
    have loop : ∀ r i o1 mem1, i + r = g 0 → (∀ j, j < dep → o1 j = o j) → zOm mem1 o1 → zSOm mem1 (g 0) (zfld (fun d S => if zud o dep d = true ∨ zndl g o dep d = true then S else zsr (fun o => zco o n g) (g 0) (zndl g) m (va_up o dep d) (dep + 1) S) i S) → zofr mem mem1 → zE X d 66 24 [.ref 740, .int (nI dep), .int (nI (zub o dep)), .int (nI i)] [] mem1 lk L lk L Q := by
      intro r
      induction r with
      | zero =>
        intro i o1 mem1 hi ho1 hO1 hS1 f1
        have hb1 : zHB mem1 10256 g := hb.same w0 (fun j hj => f1 _ (by omega) (by omega) (by omega) (by omega))
        have e01 : mem1 (10256 + 0) = nI (g 0) := hb1.k 0 (by omega)
        refine zE_do 60 24 (tbl := tX4_fill) zck_66 rfl (h := ?_)
        refine ⟨rfl, _, hk.at 741 10256, hs.k3, fun _ => ⟨rfl, rfl, ?_⟩, fun c => ?_⟩
        · rw [show i = g 0 by omega] at hS1
          exact q mem1 o1 ho1 hO1 hS1 f1
        · exfalso
          have c : ¬ mem1 (10256 + 0) ≤ nI i := c
          rw [e01, nLe (by omega) (by omega)] at c
          omega
      | succ r ihr =>
        intro i o1 mem1 hi ho1 hO1 hS1 f1
        have hb1 : zHB mem1 10256 g := hb.same w0 (fun j hj => f1 _ (by omega) (by omega) (by omega) (by omega))
        have e01 : mem1 (10256 + 0) = nI (g 0) := hb1.k 0 (by omega)
        have tb := zsh_t i (by omega) (zub o dep) hub
        have bb := zub_bit (o := o) (d := i) (by omega) dep hv6
        have hud : zud o1 dep i = zud o dep i := zud_ext dep ho1
        have hnd : zndl g o1 dep i = zndl g o dep i := ndx o1 o dep i ho1
        have kk := fun o1 mem1 a b c e => ihr (i + 1) o1 mem1 (by omega) a b c e
        rw [show nI (i + 1) = nI i + nI 1 from (nI_add i 1).symm] at kk
        have hz : zfld (fun d S => if zud o dep d = true ∨ zndl g o dep d = true then S else zsr (fun o => zco o n g) (g 0) (zndl g) m (va_up o dep d) (dep + 1) S) (i + 1) S = (if zud o dep i = true ∨ zndl g o dep i = true then zfld (fun d S => if zud o dep d = true ∨ zndl g o dep d = true then S else zsr (fun o => zco o n g) (g 0) (zndl g) m (va_up o dep d) (dep + 1) S) i S else zsr (fun o => zco o n g) (g 0) (zndl g) m (va_up o dep i) (dep + 1) (zfld (fun d S => if zud o dep d = true ∨ zndl g o dep d = true then S else zsr (fun o => zco o n g) (g 0) (zndl g) m (va_up o dep d) (dep + 1) S) i S)) := rfl
        rw [hz] at kk
        generalize zfld (fun d S => if zud o dep d = true ∨ zndl g o dep d = true then S else zsr (fun o => zco o n g) (g 0) (zndl g) m (va_up o dep d) (dep + 1) S) i S = Si at kk hS1
        refine zE_do 60 24 (tbl := tX4_fill) zck_66 rfl (h := ?_)
        refine ⟨rfl, _, hk.at 741 10256, hs.k3, fun c => ?_, fun _ => ⟨fun c => ?_, fun c => ⟨rfl, ok_isNeedless (by omega) hk hs hb1 wf hO1 (by omega) (by omega) (fun h => by rw [ho1 _ (by omega)]; exact hv.1 _ (by omega)) (fun z => zT_ne ?_) (fun z => zF_ne ?_)⟩⟩⟩
        · exfalso
          have c : mem1 (10256 + 0) ≤ nI i := c
          rw [e01, nLe (by omega) (by omega)] at c
          omega
        · have c : ¬ (nI (zub o dep) >>> (nI i &&& 31)) &&& nI 1 = 0 := c
          rw [tb, n0 (by omega)] at c
          have hu : zud o dep i = true := by
            by_cases z : zud o dep i = true
            · exact z
            · rw [if_neg z] at bb; omega
          rw [if_pos (Or.inl hu)] at kk
          exact kk o1 mem1 ho1 hO1 hS1 f1
        · rw [hnd] at z
          rw [if_pos (Or.inr z)] at kk
          exact kk o1 mem1 ho1 hO1 hS1 f1
        · have c : (nI (zub o dep) >>> (nI i &&& 31)) &&& nI 1 = 0 := c
          rw [tb, n0 (by omega)] at c
          have hu : ¬ zud o dep i = true := fun y => by rw [if_pos y] at bb; omega
          rw [hnd] at z
          rw [if_neg (fun y => y.elim hu z)] at kk
          have ed : (nI dep).toNatClampNeg = dep := nC (by omega)
          refine ⟨rfl, _, hk.at 742 750, rfl, vp_in_nI (show dep < 6 by omega) (by show 6 < 2 ^ 31; decide), rfl, ?_⟩
          have F2 : zofr mem1 (upd mem1 (750 + (nI dep).toNatClampNeg) (nI i)) := fun x a1 a2 a3 a4 => upd_ne (by omega)
          have hO2 : zOm (upd mem1 (750 + (nI dep).toNatClampNeg) (nI i)) (va_up o1 dep i) := fun k hk6 => by
            by_cases y : k = dep
            · subst y
              rw [zup_eq, ed, upd_eq]; exact ⟨rfl, by omega⟩
            · rw [zup_ne y, upd_ne (by omega)]; exact hO1 k hk6
          have hS2 : zSOm (upd mem1 (750 + (nI dep).toNatClampNeg) (nI i)) (g 0) Si := hS1.fr w0 (fun x hx => upd_ne (by omega))
          have hv1 : zvd (g 0) o1 dep := ⟨fun j hj => by rw [ho1 j hj]; exact hv.1 j hj, fun a b ha hb e => hv.2 a b ha hb (by rw [← ho1 a ha, ← ho1 b hb]; exact e)⟩
          have agr : ∀ j, j < dep + 1 → va_up o1 dep i j = va_up o dep i j := fun j hj => by
            by_cases y : j = dep
            · subst y; rw [zup_eq, zup_eq]
            · rw [zup_ne y, zup_ne y]; exact ho1 j (by omega)
          have zz := zsr_ext (nd := zndl g) Cx ndx m (va_up o1 dep i) (va_up o dep i) (dep + 1) Si (by omega) agr
          refine ih (dep + 1) (va_up o1 dep i) Si _ _ _ _ _ (nI_add dep 1) ?_ (by omega) (by omega) (hv1.up (by omega) (by rw [hud]; exact hu)) (hb1.same w0 (fun j hj => upd_ne (by omega))) (by rw [upd_ne (by omega), f1 _ (by omega) (by omega) (by omega) (by omega)]; exact e744) hO2 hS2 (fun m2 o2 a1 a2 a3 f2 => ?_)
          · rw [zor_t i (by omega) (zub o dep) (by omega)]
            show _ = nI (zub (va_up o1 dep i) dep ||| 2 ^ va_up o1 dep i dep)
            rw [zup_eq, zub_ext (o := va_up o1 dep i) (o' := o) dep (fun j hj => by rw [zup_ne (by omega)]; exact ho1 j hj)]
          · rw [zz] at a3
            exact kk o2 m2 (fun j hj => by rw [a1 j (by omega), zup_ne (by omega)]; exact ho1 j hj) a2 a3 ((f1.tr F2).tr f2)
    refine zOk_do 60 (tbl := tX4_fill) zck_66 rfl (by omega) (h := ?_)
    refine ⟨rfl, _, hk.at 741 10256, hs.k3, fun c => ?_, fun _ => ⟨fun _ => loop (g 0) 0 o mem (by omega) (fun _ _ => rfl) hO hSm zofr.rf, fun c => absurd c1 c⟩⟩
    exfalso
    have c : mem (10256 + 0) ≤ nI dep := c
    rw [e0, nLe (by omega) (by omega)] at c
    omega
end OR
