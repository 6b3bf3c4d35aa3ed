/-! how many rows are there; how many wait -/
def zrows (rl : Nat → Nat) : Nat → Nat
  | 0 => 0
  | i + 1 => zrows rl i + (if rl i = 99 then 0 else 1)
theorem zrows_le (rl : Nat → Nat) : ∀ i, zrows rl i ≤ i
  | 0 => Nat.le_refl _
  | i + 1 => by have := zrows_le rl i; unfold zrows; split <;> omega
def zwait (g : zH) : Nat → Nat
  | 0 => 0
  | i + 1 => zwait g i + (if 10 ≤ g (13 + i) then 0 else 1)
theorem zwait_le (g : zH) : ∀ i, zwait g i ≤ i
  | 0 => Nat.le_refl _
  | i + 1 => by have := zwait_le g i; unfold zwait; split <;> omega
section CO
variable {X d : Nat} {mem : zMem} {lk : zLk} {L : List Nat} {Q : Option Value → zMem → Prop} {g : zH} {rl rn : Nat → Nat} {ri : Nat → Int32}
theorem present_loop (hd : 1 < d) (hk : zKs lk) (hR : zCR mem rl rn ri) (ho : zRowOk rl rn) (q : Q (some (.int (nI (zrows rl 8)))) mem) : ∀ n i, i + n = 8 → zE X d 77 4 [.ref 120, .int (nI (zrows rl i)), .int (nI i)] [] mem lk L lk L Q := by
  intro n
  induction n with
  | zero =>
    intro i hi
    have c1 : nI 8 ≤ nI i := by rw [nLe (by omega) (by omega)]; omega
    refine zE_do 40 4 (tbl := tX5_present) zck_77 rfl (h := ?_)
    refine ⟨fun _ => ⟨rfl, rfl, ?_⟩, fun c => absurd c1 c⟩
    rw [show i = 8 by omega]; exact q
  | succ n ih =>
    intro i hi
    have c1 : ¬ nI 8 ≤ nI i := by rw [nLe (by omega) (by omega)]; omega
    have k := ih (i + 1) (by omega)
    rw [show nI (i + 1) = nI i + nI 1 from (nI_add i 1).symm] at k
    unfold zrows at k
    refine zE_do 40 4 (tbl := tX5_present) zck_77 rfl (h := ?_)
    refine ⟨fun c => absurd c c1, fun _ => ⟨rfl, ok_isMissing (by omega) hk hR ho (by omega) (fun z => zT_eq ?_) (fun z => zF_eq ?_)⟩⟩
    · rw [if_pos z, show nI (zrows rl i + 0) = nI (zrows rl i) + nI 0 from (nI_add _ 0).symm] at k
      exact k
    · rw [if_neg z, show nI (zrows rl i + 1) = nI (zrows rl i) + nI 1 from (nI_add _ 1).symm] at k
      exact k
theorem ok_present (hd : 1 < d) (hk : zKs lk) (hR : zCR mem rl rn ri) (ho : zRowOk rl rn) (q : Q (some (.int (nI (zrows rl 8)))) mem) : zOk X d 77 [.ref 120] mem lk L lk L Q := by
  refine zOk_do 20 (tbl := tX5_present) zck_77 rfl (by omega) (h := ?_)
  exact present_loop hd hk hR ho q 8 0 (by omega)
theorem rowsThere_loop (hk : zML lk) (hR : zMR mem rl rn ri) (ho : zRowOk rl rn) (q : Q (some (.int (nI (zrows rl 8)))) mem) : ∀ n i, i + n = 8 → zE X d 217 4 [.ref 1000, .int (nI (zrows rl i)), .int (nI i)] [] mem lk L lk L Q := by
  have nm : (-(nI 1)).toInt = -1 := by decide
  intro n
  induction n with
  | zero =>
    intro i hi
    have c1 : nI 8 ≤ nI i := by rw [nLe (by omega) (by omega)]; omega
    refine zE_do 40 4 (tbl := tX8_rowsThere) zck_217 rfl (h := ?_)
    refine ⟨fun _ => ⟨rfl, rfl, ?_⟩, fun c => absurd c1 c⟩
    rw [show i = 8 by omega]; exact q
  | succ n ih =>
    intro i hi
    have c1 : ¬ nI 8 ≤ nI i := by rw [nLe (by omega) (by omega)]; omega
    have hi8 : i < 8 := by omega
    have hms : mem (3420 + (nI i).toNatClampNeg) < 0 ↔ rl i = 99 := by
      rw [nC (by omega), i_lt, i_0]
      by_cases z : rl i = 99
      · rw [(hR.1 i hi8).1 z, nm]; omega
      · have := (ho i hi8 z).2
        rw [((hR.1 i hi8).2 z).1, nT (by omega)]; omega
    have k := ih (i + 1) (by omega)
    rw [show nI (i + 1) = nI i + nI 1 from (nI_add i 1).symm] at k
    unfold zrows at k
    refine zE_do 40 4 (tbl := tX8_rowsThere) zck_217 rfl (h := ?_)
    refine ⟨fun c => absurd c c1, fun _ => ⟨rfl, _, hk.b, Or.inl rfl, in8 3420 rfl hi8, fun c => ?_, fun c => ?_⟩⟩
    · rw [if_pos (hms.mp c), show nI (zrows rl i + 0) = nI (zrows rl i) + nI 0 from (nI_add _ 0).symm] at k
      exact k
    · rw [if_neg (fun z => c (hms.mpr z)), show nI (zrows rl i + 1) = nI (zrows rl i) + nI 1 from (nI_add _ 1).symm] at k
      exact k
theorem ok_rowsThere (hd : 0 < d) (hk : zML lk) (hR : zMR mem rl rn ri) (ho : zRowOk rl rn) (q : Q (some (.int (nI (zrows rl 8)))) mem) : zOk X d 217 [.ref 1000] mem lk L lk L Q := by
  refine zOk_do 20 (tbl := tX8_rowsThere) zck_217 rfl (by omega) (h := ?_)
  exact rowsThere_loop hk hR ho q 8 0 (by omega)
theorem waiting_loop (hk : zML lk) (hb : zHB mem 2000 g) (h6 : g 0 ≤ 6) (hg : ∀ e, e < g 0 → g (13 + e) ≤ 11) (q : Q (some (.int (nI (zwait g (g 0))))) mem) : ∀ n i, i + n = g 0 → zE X d 218 4 [.ref 1000, .int (nI (zwait g i)), .int (nI i)] [] mem lk L lk L Q := by
  have e0 : mem (2000 + (nI 0).toNatClampNeg) = nI (g 0) := hb.k 0 (by omega)
  intro n
  induction n with
  | zero =>
    intro i hi
    refine zE_do 40 4 (tbl := tX8_waiting) zck_218 rfl (h := ?_)
    refine ⟨rfl, _, hk.1, Or.inl rfl, zwi0 (by omega), fun _ => ⟨rfl, rfl, ?_⟩, fun c => ?_⟩
    · rw [show i = g 0 by omega]; exact q
    · exfalso
      have c : ¬ mem (2000 + (nI 0).toNatClampNeg) ≤ nI i := c
      rw [e0, nLe (by omega) (by omega)] at c
      omega
  | succ n ih =>
    intro i hi
    have hie : i < g 0 := by omega
    have h11 := hg i hie
    have k := ih (i + 1) (by omega)
    rw [show nI (i + 1) = nI i + nI 1 from (nI_add i 1).symm] at k
    unfold zwait at k
    have ea : mem (2000 + (nI 13 + nI i).toNatClampNeg) = nI (g (13 + i)) := by rw [zw1 (by omega), show 2000 + (13 + i) = 2000 + 13 + i by omega]; exact hb.at hie
    refine zE_do 40 4 (tbl := tX8_waiting) zck_218 rfl (h := ?_)
    refine ⟨rfl, _, hk.1, Or.inl rfl, zwi0 (by omega), fun c => ?_, fun _ => ⟨rfl, _, hk.1, Or.inl rfl, zwi1 (by omega), fun c => ?_, fun c => ?_⟩⟩
    · exfalso
      have c : mem (2000 + (nI 0).toNatClampNeg) ≤ nI i := c
      rw [e0, nLe (by omega) (by omega)] at c
      omega
    · have c : nI 10 ≤ mem (2000 + (nI 13 + nI i).toNatClampNeg) := c
      rw [ea, nLe (by omega) (by omega)] at c
      rw [if_pos c, show nI (zwait g i + 0) = nI (zwait g i) + nI 0 from (nI_add _ 0).symm] at k
      exact k
    · have c : ¬ nI 10 ≤ mem (2000 + (nI 13 + nI i).toNatClampNeg) := c
      rw [ea, nLe (by omega) (by omega)] at c
      rw [if_neg c, show nI (zwait g i + 1) = nI (zwait g i) + nI 1 from (nI_add _ 1).symm] at k
      exact k
theorem ok_waiting (hd : 0 < d) (hk : zML lk) (hb : zHB mem 2000 g) (h6 : g 0 ≤ 6) (hg : ∀ e, e < g 0 → g (13 + e) ≤ 11) (q : Q (some (.int (nI (zwait g (g 0))))) mem) : zOk X d 218 [.ref 1000] mem lk L lk L Q := by
  refine zOk_do 20 (tbl := tX8_waiting) zck_218 rfl (by omega) (h := ?_)
  exact waiting_loop hk hb h6 hg q (g 0) 0 (by omega)
end CO
