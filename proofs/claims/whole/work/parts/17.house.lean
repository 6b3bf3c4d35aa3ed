/-! DishLift$House: methods that read -/
section HS
variable {X d : Nat} {mem : zMem} {lk : zLk} {L : List Nat} {Q : Option Value → zMem → Prop} {h : Nat} {g : zH}
theorem ok_stands (hd : 0 < d) (hh : zHo lk h) (hb : zHB mem h g) (hn : g 0 ≤ 6) (q1 : 0 < g 0 → Q (some (.int (nI 1))) mem) (q0 : g 0 = 0 → Q (some (.int (nI 0))) mem) : zOk X d 44 [.ref h] mem lk L lk L Q := by
  refine zOk_do 20 (tbl := tX3_stands) zck_44 rfl hd (h := ?_)
  refine ⟨hh.k3, ⟨fun c => ?_, fun c => ?_⟩⟩
  · have c : mem (h + 0) ≤ 0 := c
    rw [hb.k 0 (by omega), show (0 : Int32) = nI 0 from rfl, nLe (by omega) (by omega)] at c
    exact ⟨rfl, rfl, rfl, q0 (by omega)⟩
  · have c : ¬ mem (h + 0) ≤ 0 := c
    rw [hb.k 0 (by omega), show (0 : Int32) = nI 0 from rfl, nLe (by omega) (by omega)] at c
    exact ⟨rfl, rfl, rfl, q1 (by omega)⟩
theorem ok_isDish {x : Int32} (hd : 0 < d) (hh : zHo lk h) (hb : zHB mem h g) (hn : g 0 ≤ 6) (q1 : ∀ e, e < g 0 → x = nI e → Q (some (.int (nI 1))) mem) (q0 : (x.toInt < 0 ∨ (g 0 : Int) ≤ x.toInt) → Q (some (.int (nI 0))) mem) : zOk X d 45 [.ref h, .int x] mem lk L lk L Q := by
  refine zOk_do 20 (tbl := tX3_isDish) zck_45 rfl hd (h := ?_)
  refine ⟨fun c => ⟨rfl, rfl, rfl, ?_⟩, fun c => ⟨hh.k3, fun c2 => ⟨rfl, rfl, rfl, ?_⟩, fun c2 => ⟨rfl, rfl, rfl, ?_⟩⟩⟩
  · rw [i_lt, i_0] at c; exact q0 (Or.inl c)
  · have c2 : mem (h + 0) ≤ x := c2
    rw [hb.k 0 (by omega), i_le, nT (by omega)] at c2
    exact q0 (Or.inr c2)
  · have c2 : ¬ mem (h + 0) ≤ x := c2
    rw [hb.k 0 (by omega), i_le, nT (by omega)] at c2
    rw [i_lt, i_0] at c
    rcases zix x (n := g 0) (by omega) with ⟨j, hj, e⟩ | q
    · exact q1 j hj e
    · omega
theorem ok_isFloor {x : Int32} (hd : 0 < d) (hh : zHo lk h) (hb : zHB mem h g) (hn : g 1 ≤ 9) (q1 : ∀ e, e < g 1 → x = nI e → Q (some (.int (nI 1))) mem) (q0 : (x.toInt < 0 ∨ (g 1 : Int) ≤ x.toInt) → Q (some (.int (nI 0))) mem) : zOk X d 46 [.ref h, .int x] mem lk L lk L Q := by
  refine zOk_do 20 (tbl := tX3_isFloor) zck_46 rfl hd (h := ?_)
  refine ⟨fun c => ⟨rfl, rfl, rfl, ?_⟩, fun c => ⟨hh.k3, fun c2 => ⟨rfl, rfl, rfl, ?_⟩, fun c2 => ⟨rfl, rfl, rfl, ?_⟩⟩⟩
  · rw [i_lt, i_0] at c; exact q0 (Or.inl c)
  · have c2 : mem (h + 1) ≤ x := c2
    rw [hb.k 1 (by omega), i_le, nT (by omega)] at c2
    exact q0 (Or.inr c2)
  · have c2 : ¬ mem (h + 1) ≤ x := c2
    rw [hb.k 1 (by omega), i_le, nT (by omega)] at c2
    rw [i_lt, i_0] at c
    rcases zix x (n := g 1) (by omega) with ⟨j, hj, e⟩ | q
    · exact q1 j hj e
    · omega
theorem zall_t : ∀ n, n ≤ 6 → nI 1 <<< (nI n &&& 31) - nI 1 = nI (2 ^ n - 1) := by decide +kernel
theorem ok_all (hd : 0 < d) (hh : zHo lk h) (hb : zHB mem h g) (hn : g 0 ≤ 6) (q : Q (some (.int (nI (2 ^ g 0 - 1)))) mem) : zOk X d 47 [.ref h] mem lk L lk L Q := by
  refine zOk_do 20 (tbl := tX3_all) zck_47 rfl hd (h := ?_)
  refine ⟨hh.k3, rfl, rfl, ?_⟩
  show Q (some (.int (nI 1 <<< (mem (h + 0) &&& 31) - nI 1))) mem
  rw [hb.k 0 (by omega), zall_t _ hn]
  exact q
/-- which dishes, of the first i, are at a place -/
def zbits (g : zH) (p : Nat) : Nat → Nat
  | 0 => 0
  | i + 1 => if g (13 + i) = p then zbits g p i ||| 2 ^ i else zbits g p i
theorem zbits_lt (g : zH) (p : Nat) : ∀ i, i ≤ 9 → zbits g p i < 2 ^ i
  | 0, _ => Nat.zero_lt_one
  | i + 1, h => by
    have ih := zbits_lt g p i (by omega)
    unfold zbits
    split
    · exact Nat.or_lt_two_pow (Nat.lt_of_lt_of_le ih (Nat.pow_le_pow_right (by omega) (by omega))) (Nat.pow_lt_pow_right (by omega) (by omega))
    · exact Nat.lt_of_lt_of_le ih (Nat.pow_le_pow_right (by omega) (by omega))
theorem zbits_512 (g : zH) (p i : Nat) (h : i ≤ 9) : zbits g p i < 512 := Nat.lt_of_lt_of_le (zbits_lt g p i h) (show 2 ^ i ≤ 2 ^ 9 from Nat.pow_le_pow_right (by omega) h)
theorem those_loop {p : Nat} (hh : zHo lk h) (hb : zHB mem h g) (hn : g 0 ≤ 6) (hg : ∀ e, e < g 0 → g (13 + e) ≤ 11) (hp : p ≤ 11) (q : Q (some (.int (nI (zbits g p (g 0))))) mem) : ∀ n i, i + n = g 0 → zE X d 48 4 [.ref h, .int (nI p), .int (nI (zbits g p i)), .int (nI i)] [] mem lk L lk L Q := by
  intro n
  induction n with
  | zero =>
    intro i hi
    refine zE_do 30 4 (tbl := tX3_those) zck_48 rfl (h := ?_)
    refine ⟨hh.k3, fun c => ⟨rfl, rfl, ?_⟩, fun c => ?_⟩
    · rw [show i = g 0 by omega]; exact q
    · exfalso
      have c : ¬ mem (h + 0) ≤ nI i := c
      rw [hb.k 0 (by omega), nLe (by omega) (by omega)] at c
      omega
  | succ n ih =>
    intro i hi
    refine zE_do 30 4 (tbl := tX3_those) zck_48 rfl (h := ?_)
    refine ⟨hh.k3, fun c => ?_, fun c => ⟨hh.k3, _, hh.lk 1 (by omega), Or.inl (hh.ka 1 (by omega)), hh.inn (by omega), fun c2 => ?_, fun c2 => ?_⟩⟩
    · exfalso
      have c : mem (h + 0) ≤ nI i := c
      rw [hb.k 0 (by omega), nLe (by omega) (by omega)] at c
      omega
    · have c2 : ¬ mem (h + 13 + (nI i).toNatClampNeg) = nI p := c2
      rw [nC (by omega), hb.at (by omega), nEq (by have := hg i (by omega); omega) (by omega)] at c2
      have k := ih (i + 1) (by omega)
      rw [← nI_1, show zbits g p (i + 1) = zbits g p i from if_neg c2] at k
      exact k
    · have c2 : mem (h + 13 + (nI i).toNatClampNeg) = nI p := c2
      rw [nC (by omega), hb.at (by omega), nEq (by have := hg i (by omega); omega) (by omega)] at c2
      have k := ih (i + 1) (by omega)
      rw [← nI_1, show zbits g p (i + 1) = zbits g p i ||| 2 ^ i from if_pos c2, ← zor_t i (by omega) _ (zbits_512 g p i (by omega))] at k
      exact k
theorem ok_those {p : Nat} (hd : 0 < d) (hh : zHo lk h) (hb : zHB mem h g) (hn : g 0 ≤ 6) (hg : ∀ e, e < g 0 → g (13 + e) ≤ 11) (hp : p ≤ 11) (q : Q (some (.int (nI (zbits g p (g 0))))) mem) : zOk X d 48 [.ref h, .int (nI p)] mem lk L lk L Q := by
  refine zOk_do 20 (tbl := tX3_those) zck_48 rfl hd (h := ?_)
  exact those_loop hh hb hn hg hp q (g 0) 0 (by omega)
theorem ok_served (hd : 1 < d) (hh : zHo lk h) (hb : zHB mem h g) (hn : g 0 ≤ 6) (hg : ∀ e, e < g 0 → g (13 + e) ≤ 11) (q : Q (some (.int (nI (zbits g 11 (g 0))))) mem) : zOk X d 49 [.ref h] mem lk L lk L Q := by
  refine zOk_do 20 (tbl := tX3_served) zck_49 rfl (by omega) (h := ?_)
  exact ⟨by rw [hh.k3]; rfl, ok_those (by omega) hh hb hn hg (by omega) ⟨rfl, rfl, q⟩⟩
end HS
