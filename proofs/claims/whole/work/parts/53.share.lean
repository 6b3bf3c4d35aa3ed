/-! share -/
def zit (g : zH) (e : Nat) : Nat := if g (13 + e) = 11 then 0 else g (31 + e)
def zits (g : zH) : Nat → Nat
  | 0 => 0
  | i + 1 => zits g i + zit g i
theorem zits_tot (g : zH) : ∀ i, zits g i + zwts g 11 31 i = ztot g 31 i
  | 0 => rfl
  | i + 1 => by
    have ih := zits_tot g i
    show zits g i + zit g i + (zwts g 11 31 i + (if g (13 + i) = 11 then g (31 + i) else 0)) = ztot g 31 i + g (31 + i)
    unfold zit
    split <;> omega
theorem zits_ge (g : zH) {e : Nat} : ∀ i, e < i → zit g e ≤ zits g i
  | 0, h => by omega
  | i + 1, h => by
    show zit g e ≤ zits g i + zit g i
    by_cases z : e = i
    · subst z; omega
    · have := zits_ge g (e := e) i (by omega); omega
theorem zanb_t : ∀ m, m ≤ 6 → ∀ b, b < 2 ^ m → ∀ e, e < m → zan (2 ^ m - 1) b / 2 ^ e % 2 = 1 - b / 2 ^ e % 2 := by decide +kernel
theorem zshr_bit (g : zH) {e m : Nat} (hm : m ≤ 6) (he : e < m) : zan (2 ^ m - 1) (zbits g 11 m) / 2 ^ e % 2 = if g (13 + e) = 11 then 0 else 1 := by
  rw [zanb_t m hm _ (zbits_lt g 11 m (by omega)) e he, zbits_bit g 11 m (by omega) he]
  split <;> rfl
theorem zsum_its (g : zH) {m : Nat} (hm : m ≤ 6) : ∀ i, i ≤ m → zsum g 31 (zan (2 ^ m - 1) (zbits g 11 m)) i = zits g i
  | 0, _ => rfl
  | i + 1, h => by
    show zsum g 31 (zan (2 ^ m - 1) (zbits g 11 m)) i + zan (2 ^ m - 1) (zbits g 11 m) / 2 ^ i % 2 * g (31 + i) = zits g i + zit g i
    rw [zsum_its g hm i (by omega), zshr_bit g hm (by omega)]
    unfold zit
    split
    · rw [Nat.zero_mul]
    · rw [Nat.one_mul]
/-- what is over of n behind the first i shares, and how many earlier ones have a share -/
def zov (g : zH) (n a : Nat) : Nat → Int32
  | 0 => nI n
  | i + 1 => if zit g i = 0 then zov g n a i else zov g n a i - nI n * nI (zit g i) / nI a
def zea (g : zH) (e : Nat) : Nat → Nat
  | 0 => 0
  | i + 1 => zea g e i + (if i < e ∧ ¬ zit g i = 0 then 1 else 0)
def zshareA (g : zH) (e n : Nat) : Int32 :=
  if zit g e = 0 then nI 0 else nI n * nI (g (31 + e)) / nI (zits g (g 0)) + (if zov g n (zits g (g 0)) (g 0) ≤ nI (zea g e (g 0)) then nI 0 else nI 1)
theorem zits_360 {g : zH} (wf : zWF g) : zits g (g 0) ≤ 360 := by
  have h1 : ∀ i, i ≤ g 0 → zits g i ≤ 60 * i := by
    intro i
    induction i with
    | zero => intro _; exact Nat.le_refl _
    | succ i ih =>
      intro h
      have h1 := ih (by omega)
      have h2 := (wf.2.2.2.2.2.2.2.2 i (by omega)).2.2.2.2
      show zits g i + zit g i ≤ _
      unfold zit
      split <;> omega
  have := h1 (g 0) (Nat.le_refl _)
  have := wf.1
  omega
section SH
variable {X d : Nat} {mem : zMem} {lk : zLk} {L : List Nat} {Q : Option Value → zMem → Prop} {g : zH}
theorem ok_heatOf2 {h b : Nat} {x : Int32} (e : x = nI b) (hd : 0 < d) (hh : zHo lk h) (hb : zHB mem h g) (wf : zWF g) (hbb : b < 64) (q : Q (some (.int (nI (zsum g 31 b (g 0))))) mem) : zOk X d 53 [.ref h, .int x] mem lk L lk L Q := by
  subst e
  exact ok_heatOf hd hh hb wf hbb q
theorem shareOf_loop {e n : Nat} (he : e < g 0) (hn : n ≤ 999) (hh : zHo lk 10000) (hb : zHB mem 10000 g) (wf : zWF g) (hz : ¬ zit g e = 0) (q : Q (some (.int (zshareA g e n))) mem) : ∀ m i, i + m = g 0 → zE X d 25 52 [.ref 10000, .int (nI e), .int (nI n), .int (nI (zan (2 ^ g 0 - 1) (zbits g 11 (g 0)))), .int (nI (zits g (g 0))), .int (zov g n (zits g (g 0)) i), .int (nI (zea g e i)), .int (nI i)] [] mem lk L lk L Q := by
  have w0 := wf.1
  have h360 := zits_360 wf
  have hge := zits_ge g (g 0) he
  have hp : 2 ^ g 0 ≤ 2 ^ 6 := Nat.pow_le_pow_right (by omega) w0
  have h11 := zbits64 (g := g) (p := 11) w0
  obtain ⟨-, t2⟩ := zan_t (2 ^ g 0 - 1) (by omega) _ h11
  have hne : ¬ nI (zits g (g 0)) = 0 := by rw [n0 (by omega)]; omega
  intro m
  induction m with
  | zero =>
    intro i hi
    have ei : i = g 0 := by omega
    have eh : mem (10000 + (7 + 6 * 4) + (nI e).toNatClampNeg) = nI (g (31 + e)) := by rw [nC (by omega)]; exact hb.ht he
    unfold zshareA at q
    rw [if_neg hz, ← eh] at q
    refine zE_do 90 52 (tbl := tX2_shareOf) zck_25 rfl (h := ?_)
    refine ⟨hh.k3, fun _ => ⟨hh.k3, _, hh.lk 4 (by omega), Or.inl (hh.ka 4 (by omega)), hh.inn (by omega), hne, fun c => ⟨rfl, rfl, ?_⟩, fun c => ⟨rfl, rfl, ?_⟩⟩, fun c => ?_⟩
    · have c : zov g n (zits g (g 0)) i ≤ nI (zea g e i) := c
      rw [ei] at c
      rw [if_pos c] at q
      exact q
    · have c : ¬ zov g n (zits g (g 0)) i ≤ nI (zea g e i) := c
      rw [ei] at c
      rw [if_neg c] at q
      exact q
    · exfalso
      have c : ¬ mem (10000 + 0) ≤ nI i := c
      rw [hb.k 0 (by omega), nLe (by omega) (by omega)] at c
      omega
  | succ m ih =>
    intro i hi
    have hi0 : i < g 0 := by omega
    have eh : mem (10000 + (7 + 6 * 4) + (nI i).toNatClampNeg) = nI (g (31 + i)) := by rw [nC (by omega)]; exact hb.ht hi0
    have k := ih (i + 1) (by omega)
    rw [show nI (i + 1) = nI i + nI 1 from (nI_add i 1).symm] at k
    have tb := zsh_t i (by omega) (zan (2 ^ g 0 - 1) (zbits g 11 (g 0))) (by omega)
    have tc := zshr_bit g (e := i) w0 hi0
    have h60 := (wf.2.2.2.2.2.2.2.2 i hi0).2.2.2.2
    unfold zov zea at k
    refine zE_do 90 52 (tbl := tX2_shareOf) zck_25 rfl (h := ?_)
    refine ⟨hh.k3, fun c => ?_, fun _ => ⟨fun c => ?_, fun c => ⟨hh.k3, _, hh.lk 4 (by omega), Or.inl (hh.ka 4 (by omega)), hh.inn (by omega), fun c2 => ?_, fun c2 => ⟨hh.k3, _, hh.lk 4 (by omega), Or.inl (hh.ka 4 (by omega)), hh.inn (by omega), hne, fun c3 => ?_, fun c3 => ?_⟩⟩⟩⟩
    · exfalso
      have c : mem (10000 + 0) ≤ nI i := c
      rw [hb.k 0 (by omega), nLe (by omega) (by omega)] at c
      omega
    · have c : (nI (zan (2 ^ g 0 - 1) (zbits g 11 (g 0))) >>> (nI i &&& 31)) &&& nI 1 = 0 := c
      rw [tb, n0 (by omega)] at c
      have ez : zit g i = 0 := by
        unfold zit
        by_cases z : g (13 + i) = 11
        · exact if_pos z
        · rw [if_neg z] at tc; omega
      rw [if_pos ez, if_neg (fun y => y.2 ez)] at k
      exact k
    · have c2 : mem (10000 + (7 + 6 * 4) + (nI i).toNatClampNeg) ≤ 0 := c2
      rw [eh, i_le, i_0, nT (by omega)] at c2
      have ez : zit g i = 0 := by
        unfold zit
        split
        · rfl
        · omega
      rw [if_pos ez, if_neg (fun y => y.2 ez)] at k
      exact k
    · have c : ¬ (nI (zan (2 ^ g 0 - 1) (zbits g 11 (g 0))) >>> (nI i &&& 31)) &&& nI 1 = 0 := c
      have c2 : ¬ mem (10000 + (7 + 6 * 4) + (nI i).toNatClampNeg) ≤ 0 := c2
      have c3 : nI e ≤ nI i := c3
      rw [tb, n0 (by omega)] at c
      rw [eh, i_le, i_0, nT (by omega)] at c2
      rw [nLe (by omega) (by omega)] at c3
      have ez : zit g i = g (31 + i) := by
        unfold zit
        by_cases z : g (13 + i) = 11
        · rw [if_pos z] at tc; omega
        · exact if_neg z
      rw [ez, if_neg (by omega), if_neg (fun y => by omega), ← eh, show nI (zea g e i + 0) = nI (zea g e i) + nI 0 from (nI_add _ 0).symm] at k
      exact k
    · have c : ¬ (nI (zan (2 ^ g 0 - 1) (zbits g 11 (g 0))) >>> (nI i &&& 31)) &&& nI 1 = 0 := c
      have c2 : ¬ mem (10000 + (7 + 6 * 4) + (nI i).toNatClampNeg) ≤ 0 := c2
      have c3 : ¬ nI e ≤ nI i := c3
      rw [tb, n0 (by omega)] at c
      rw [eh, i_le, i_0, nT (by omega)] at c2
      rw [nLe (by omega) (by omega)] at c3
      have ez : zit g i = g (31 + i) := by
        unfold zit
        by_cases z : g (13 + i) = 11
        · rw [if_pos z] at tc; omega
        · exact if_neg z
      rw [ez, if_neg (by omega), if_pos (by omega), ← eh, show nI (zea g e i + 1) = nI (zea g e i) + nI 1 from (nI_add _ 1).symm] at k
      exact k
theorem ok_shareOf {e n : Nat} (hd : 2 < d) (he : e < g 0) (hn : n ≤ 999) (hh : zHo lk 10000) (hb : zHB mem 10000 g) (wf : zWF g) (q : Q (some (.int (zshareA g e n))) mem) : zOk X d 25 [.ref 10000, .int (nI e), .int (nI n)] mem lk L lk L Q := by
  have w0 := wf.1
  have h360 := zits_360 wf
  have hge := zits_ge g (g 0) he
  have hp : 2 ^ g 0 ≤ 2 ^ 6 := Nat.pow_le_pow_right (by omega) w0
  have h11 := zbits64 (g := g) (p := 11) w0
  obtain ⟨t1, t2⟩ := zan_t (2 ^ g 0 - 1) (by omega) _ h11
  have es := zsum_its g w0 (g 0) (Nat.le_refl _)
  have tb := zsh_t e (by omega) (zan (2 ^ g 0 - 1) (zbits g 11 (g 0))) (by omega)
  have tc := zshr_bit g (e := e) w0 he
  have h60 := (wf.2.2.2.2.2.2.2.2 e he).2.2.2.2
  have eh : mem (10000 + (7 + 6 * 4) + (nI e).toNatClampNeg) = nI (g (31 + e)) := by rw [nC (by omega)]; exact hb.ht he
  have q0 : zit g e = 0 → Q (some (.int (nI 0))) mem := fun z => by
    unfold zshareA at q
    rw [if_pos z] at q
    exact q
  refine zOk_do 90 (tbl := tX2_shareOf) zck_25 rfl (by omega) (h := ?_)
  refine ⟨by rw [hh.k3]; rfl, ok_all (by omega) hh hb w0 ⟨by rw [hh.k3]; rfl, ok_served (by omega) hh hb w0 wf.at11 ⟨by rw [hh.k3]; rfl, ok_heatOf2 t1 (by omega) hh hb wf (by omega) ?_⟩⟩⟩
  rw [es]
  refine ⟨fun c => ⟨rfl, rfl, q0 ?_⟩, fun c => ⟨fun c2 => ⟨rfl, rfl, q0 ?_⟩, fun c2 => ⟨hh.k3, _, hh.lk 4 (by omega), Or.inl (hh.ka 4 (by omega)), hh.inn (by omega), fun c3 => ?_, fun c3 => ⟨rfl, rfl, q0 ?_⟩⟩⟩⟩
  · have c : nI (zits g (g 0)) = 0 := c
    rw [n0 (by omega)] at c
    omega
  · have c2 : ((nI (2 ^ g 0 - 1) &&& (nI (zbits g 11 (g 0)) ^^^ -(nI 1))) >>> (nI e &&& 31)) &&& nI 1 = 0 := c2
    rw [t1, tb, n0 (by omega)] at c2
    unfold zit
    by_cases z : g (13 + e) = 11
    · exact if_pos z
    · rw [if_neg z] at tc; omega
  · have c2 : ¬ ((nI (2 ^ g 0 - 1) &&& (nI (zbits g 11 (g 0)) ^^^ -(nI 1))) >>> (nI e &&& 31)) &&& nI 1 = 0 := c2
    have c3 : ¬ mem (10000 + (7 + 6 * 4) + (nI e).toNatClampNeg) = 0 := c3
    rw [t1, tb, n0 (by omega)] at c2
    rw [eh, n0 (by omega)] at c3
    have hz : ¬ zit g e = 0 := by
      unfold zit
      by_cases z : g (13 + e) = 11
      · rw [if_pos z] at tc; omega
      · rw [if_neg z]; exact c3
    have k := shareOf_loop (X := X) (d := d) (L := L) he hn hh hb wf hz q (g 0) 0 (by omega)
    rw [← t1] at k
    exact k
  · have c3 : mem (10000 + (7 + 6 * 4) + (nI e).toNatClampNeg) = 0 := c3
    rw [eh, n0 (by omega)] at c3
    unfold zit
    split
    · rfl
    · exact c3
theorem ok_share {x y : Int32} (hd : 3 < d) (hk : zKs lk) (hh : zHo lk 10000) (hb : zHB mem 10000 g) (hN : zNow g)
    (qB : ((x.toInt < 0 ∨ (g 0 : Int) ≤ x.toInt) ∨ (y.toInt < 0 ∨ 999 < y.toInt)) → Q (some (.int (-(nI 1000001)))) mem)
    (q : ∀ e n, e < g 0 → x = nI e → y = nI n → n ≤ 999 → Q (some (.int (zshareA g e n))) mem) : zOk X d 115 [.ref 100, .int x, .int y] mem lk L lk L Q := by
  refine zOk_do 80 (tbl := tX7_share) zck_115 rfl (by omega) (h := ?_)
  refine ⟨rfl, _, hk.at 102 10000, by rw [hh.k3]; rfl, ok_isDish (by omega) hh hb hN.le.1 (fun e he ex => zT_eq ?_) (fun c => zF_eq ⟨rfl, rfl, qB (Or.inl c)⟩)⟩
  refine ok_isOutside (a := 0) (b := 999) (by omega) (by omega) (by omega) (fun c => zT_eq ⟨rfl, rfl, qB (Or.inr (by omega))⟩) (fun n h1 h2 ey => zF_eq ⟨rfl, _, hk.at 102 10000, ?_⟩)
  have p := q e n he ex ey h2
  subst ex ey
  exact ok_shareOf (by omega) he h2 hh hb (hN.wf (by omega)).1 ⟨rfl, rfl, p⟩
theorem mshare_loop {e n : Nat} (he : e < g 0) (hn : n ≤ 999) (hk : zML lk) (hb : zHB mem 2000 g) (wf : zWF g) (hz : ¬ zit g e = 0) (q : Q (some (.int (zshareA g e n))) mem) : ∀ m i v, i + m = g 0 → zE X d 194 72 [.ref 1000, .int (nI e), .int (nI n), .int (nI (zits g (g 0))), .int (zov g n (zits g (g 0)) i), .int (nI (zea g e i)), .int (nI i), v] [] mem lk L lk L Q := by
  have w0 := wf.1
  have h360 := zits_360 wf
  have hge := zits_ge g (g 0) he
  have hne : ¬ nI (zits g (g 0)) = 0 := by rw [n0 (by omega)]; omega
  have e0 : mem (2000 + (nI 0).toNatClampNeg) = nI (g 0) := hb.k 0 (by omega)
  intro m
  induction m with
  | zero =>
    intro i v hi
    have ei : i = g 0 := by omega
    have eh : mem (2000 + (nI 31 + nI e).toNatClampNeg) = nI (g (31 + e)) := by rw [zw1 (by omega), show 2000 + (31 + e) = 2000 + 31 + e by omega]; exact hb.ht he
    unfold zshareA at q
    rw [if_neg hz, ← eh] at q
    refine zE_do 90 72 (tbl := tX8_share) zck_194 rfl (h := ?_)
    refine ⟨rfl, _, hk.1, Or.inl rfl, zwi0 (by omega), fun _ => ⟨rfl, _, hk.1, Or.inl rfl, zwi1 (by omega), hne, fun c => ⟨rfl, rfl, ?_⟩, fun c => ⟨rfl, rfl, ?_⟩⟩, fun c => ?_⟩
    · have c : zov g n (zits g (g 0)) i ≤ nI (zea g e i) := c
      rw [ei] at c
      rw [if_pos c] at q
      exact q
    · have c : ¬ zov g n (zits g (g 0)) i ≤ nI (zea g e i) := c
      rw [ei] at c
      rw [if_neg c] at q
      exact q
    · exfalso
      have c : ¬ mem (2000 + (nI 0).toNatClampNeg) ≤ nI i := c
      rw [e0, nLe (by omega) (by omega)] at c
      omega
  | succ m ih =>
    intro i v hi
    have hi0 : i < g 0 := by omega
    have ea : mem (2000 + (nI 13 + nI i).toNatClampNeg) = nI (g (13 + i)) := by rw [zw1 (by omega), show 2000 + (13 + i) = 2000 + 13 + i by omega]; exact hb.at hi0
    have eh : mem (2000 + (nI 31 + nI i).toNatClampNeg) = nI (g (31 + i)) := by rw [zw1 (by omega), show 2000 + (31 + i) = 2000 + 31 + i by omega]; exact hb.ht hi0
    have k := fun v => ih (i + 1) v (by omega)
    rw [show nI (i + 1) = nI i + nI 1 from (nI_add i 1).symm] at k
    have h60 := (wf.2.2.2.2.2.2.2.2 i hi0).2.2.2.2
    have ha11 := wf.at11 i hi0
    unfold zov zea at k
    have z0 : ∀ t : Int32, t - nI n * nI 0 / nI (zits g (g 0)) = t := by
      intro t
      rw [nmul, Nat.mul_zero, pk_div (by omega) (by omega) (by omega), Nat.zero_div]
      exact Int32.sub_zero t
    have k1 : ∀ v b, (if i < e ∧ ¬ zit g i = 0 then 1 else 0) = b → zE X d 194 72 [.ref 1000, .int (nI e), .int (nI n), .int (nI (zits g (g 0))), .int (zov g n (zits g (g 0)) i - nI n * nI (zit g i) / nI (zits g (g 0))), .int (nI (zea g e i) + nI b), .int (nI i + nI 1), v] [] mem lk L lk L Q := fun v b hbv => by
      have k := k v
      rw [hbv, show nI (zea g e i + b) = nI (zea g e i) + nI b from (nI_add _ b).symm] at k
      by_cases z : zit g i = 0
      · rw [if_pos z, ← z0 (zov g n (zits g (g 0)) i)] at k
        rw [z]; exact k
      · rw [if_neg z] at k
        exact k
    refine zE_do 90 72 (tbl := tX8_share) zck_194 rfl (h := ?_)
    refine ⟨rfl, _, hk.1, Or.inl rfl, zwi0 (by omega), fun c => ?_, fun _ => ⟨rfl, _, hk.1, Or.inl rfl, zwi1 (by omega), fun c => ⟨rfl, _, hk.1, Or.inl rfl, zwi1 (by omega), hne, fun c2 => ?_, fun c2 => ⟨fun c3 => ?_, fun c3 => ?_⟩⟩, fun c => ⟨hne, fun c2 => ?_, fun c2 => ⟨fun c3 => ?_, fun c3 => ?_⟩⟩⟩⟩
    · exfalso
      have c : mem (2000 + (nI 0).toNatClampNeg) ≤ nI i := c
      rw [e0, nLe (by omega) (by omega)] at c
      omega
    · have c : ¬ mem (2000 + (nI 13 + nI i).toNatClampNeg) = nI 11 := c
      have c2 : nI e ≤ nI i := c2
      rw [ea, nEq (by omega) (by omega)] at c
      rw [nLe (by omega) (by omega)] at c2
      have ez : zit g i = g (31 + i) := if_neg c
      have k := k1 (.int (nI (zit g i))) 0 (if_neg (fun y => by omega))
      rw [ez, ← eh] at k
      exact k
    · have c : ¬ mem (2000 + (nI 13 + nI i).toNatClampNeg) = nI 11 := c
      have c3 : mem (2000 + (nI 31 + nI i).toNatClampNeg) ≤ 0 := c3
      rw [ea, nEq (by omega) (by omega)] at c
      rw [eh, i_le, i_0, nT (by omega)] at c3
      have ez : zit g i = g (31 + i) := if_neg c
      have k := k1 (.int (nI (zit g i))) 0 (if_neg (fun y => by omega))
      rw [ez, ← eh] at k
      exact k
    · have c : ¬ mem (2000 + (nI 13 + nI i).toNatClampNeg) = nI 11 := c
      have c2 : ¬ nI e ≤ nI i := c2
      have c3 : ¬ mem (2000 + (nI 31 + nI i).toNatClampNeg) ≤ 0 := c3
      rw [ea, nEq (by omega) (by omega)] at c
      rw [nLe (by omega) (by omega)] at c2
      rw [eh, i_le, i_0, nT (by omega)] at c3
      have ez : zit g i = g (31 + i) := if_neg c
      have k := k1 (.int (nI (zit g i))) 1 (if_pos (by omega))
      rw [ez, ← eh] at k
      exact k
    · have c : mem (2000 + (nI 13 + nI i).toNatClampNeg) = nI 11 := c
      rw [ea, nEq (by omega) (by omega)] at c
      have z : zit g i = 0 := if_pos c
      have k := k1 (.int (nI (zit g i))) 0 (if_neg (fun y => y.2 z))
      rw [z] at k
      exact k
    · have c : mem (2000 + (nI 13 + nI i).toNatClampNeg) = nI 11 := c
      rw [ea, nEq (by omega) (by omega)] at c
      have z : zit g i = 0 := if_pos c
      have k := k1 (.int (nI (zit g i))) 0 (if_neg (fun y => y.2 z))
      rw [z] at k
      exact k
    · exact absurd (show nI 0 ≤ (0 : Int32) by decide) c3
theorem ok_mshare {x y : Int32} (hd : 2 < d) (hk : zML lk) (hb : zHB mem 2000 g) (hN : zNow g)
    (qB : ((x.toInt < 0 ∨ (g 0 : Int) ≤ x.toInt) ∨ (y.toInt < 0 ∨ 999 < y.toInt)) → Q (some (.int (-(nI 1000001)))) mem)
    (q : ∀ e n, e < g 0 → x = nI e → y = nI n → n ≤ 999 → Q (some (.int (zshareA g e n))) mem) : zOk X d 194 [.ref 1000, .int x, .int y] mem lk L lk L Q := by
  refine zOk_do 80 (tbl := tX8_share) zck_194 rfl (by omega) (h := ?_)
  refine ⟨rfl, ok_misDish (by omega) hk.1 hb hN.le.1 (fun e he ex => zT_eq ?_) (fun c => zF_eq ⟨rfl, rfl, qB (Or.inl c)⟩)⟩
  refine ok_min (a := 0) (b := 999) (by omega) (by omega) (by omega) (fun c => zF_ne ⟨rfl, rfl, qB (Or.inr (by omega))⟩) (fun n h1 h2 ey => zT_ne ?_)
  have p := q e n he ex ey h2
  subst ex ey
  have wf := (hN.wf (by omega)).1
  have w0 := wf.1
  have h360 := zits_360 wf
  have htot := zits_tot g (g 0)
  have hw11 : zwts g 11 31 (g 0) ≤ g 0 * 60 := zwts_le _ _ _ 60 _ (fun e he => (wf.2.2.2.2.2.2.2.2 e (by omega)).2.2.2.2)
  have h60 := (wf.2.2.2.2.2.2.2.2 e he).2.2.2.2
  have ha11 := wf.at11 e he
  have ea : mem (2000 + (nI 13 + nI e).toNatClampNeg) = nI (g (13 + e)) := by rw [zw1 (by omega), show 2000 + (13 + e) = 2000 + 13 + e by omega]; exact hb.at he
  have eh : mem (2000 + (nI 31 + nI e).toNatClampNeg) = nI (g (31 + e)) := by rw [zw1 (by omega), show 2000 + (31 + e) = 2000 + 31 + e by omega]; exact hb.ht he
  have q0 : zit g e = 0 → Q (some (.int (nI 0))) mem := fun z => by
    unfold zshareA at p
    rw [if_pos z] at p
    exact p
  refine ⟨rfl, ok_mheatOf (r := 0) (by omega) hk.1 (by omega) hb w0 ⟨rfl, ok_mheatServed (r := 0) (by omega) hk.1 (by omega) hb wf ⟨rfl, _, hk.1, Or.inl rfl, zwi1 (by omega), fun c => ⟨rfl, rfl, q0 ?_⟩, fun c => ⟨rfl, _, hk.1, Or.inl rfl, zwi1 (by omega), fun c2 => ?_, fun c2 => ⟨rfl, rfl, q0 ?_⟩⟩⟩⟩⟩
  · have c : mem (2000 + (nI 13 + nI e).toNatClampNeg) = nI 11 := c
    rw [ea, nEq (by omega) (by omega)] at c
    exact if_pos c
  · have c : ¬ mem (2000 + (nI 13 + nI e).toNatClampNeg) = nI 11 := c
    have c2 : ¬ mem (2000 + (nI 31 + nI e).toNatClampNeg) = 0 := c2
    rw [ea, nEq (by omega) (by omega)] at c
    rw [eh, n0 (by omega)] at c2
    have hz : ¬ zit g e = 0 := by
      unfold zit
      rw [if_neg c]; exact c2
    have k := mshare_loop (X := X) (d := d) (L := L) he h2 hk hb wf hz p (g 0) 0
    rw [show zits g (g 0) = ztot g 31 (g 0) - zwts g 11 31 (g 0) by omega, ← nsub (by omega) (by omega)] at k
    exact k _ (by omega)
  · have c2 : mem (2000 + (nI 31 + nI e).toNatClampNeg) = 0 := c2
    rw [eh, n0 (by omega)] at c2
    unfold zit
    split
    · rfl
    · exact c2
end SH
