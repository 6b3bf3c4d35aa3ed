/-! the line of houses: made on demand, in order -/
def zLH (k : Nat) : Nat := 10000 + 64 * (31 + k)
def eKL (lk : zLk) (L : List Nat) : Nat → zLk × List Nat
  | 0 => (lk, L)
  | j + 1 => (nwK (720 + j) (zLH j) (eKL lk L j).1, nwL (720 + j) (zLH j) (eKL lk L j).1 (eKL lk L j).2)
def eK (lk : zLk) (L : List Nat) (j : Nat) : zLk := (eKL lk L j).1
def eL (lk : zLk) (L : List Nat) (j : Nat) : List Nat := (eKL lk L j).2
def zLine (lk : zLk) (L : List Nat) : Prop := ∀ j, j < 9 → (lk (720 + j) = none ∧ ∀ i, i < 64 → zLH j + i ∉ L) ∨ (lk (720 + j) = some (zLH j) ∧ zHo lk (zLH j))
theorem eK_ne {lk : zLk} {L : List Nat} {x : Nat} (h1 : ¬ (720 ≤ x ∧ x < 729)) (h2 : ¬ (zLH 0 ≤ x ∧ x < zLH 9)) : ∀ n, n ≤ 9 → eK lk L n x = lk x
  | 0, _ => rfl
  | n + 1, h => by
    show nwK (720 + n) (zLH n) (eK lk L n) x = lk x
    unfold zLH at h2 ⊢
    rw [nwK_ne (by omega) (by omega)]
    exact eK_ne h1 h2 n (by omega)
theorem eK_ge {lk : zLk} {L : List Nat} {j x : Nat} (hj : j < 9) (hx : x = 720 + j ∨ (zLH j ≤ x ∧ x < zLH j + 64)) : ∀ n, n ≤ j → eK lk L n x = lk x
  | 0, _ => rfl
  | n + 1, h => by
    show nwK (720 + n) (zLH n) (eK lk L n) x = lk x
    unfold zLH at hx ⊢
    rw [nwK_ne (by omega) (by omega)]
    exact eK_ge hj hx n (by omega)
theorem eL_in {lk : zLk} {L : List Nat} {x : Nat} : ∀ n, x ∈ eL lk L n → x ∈ L ∨ (zLH 0 ≤ x ∧ x < zLH n)
  | 0, h => Or.inl h
  | n + 1, h => by
    have h : x ∈ nwL (720 + n) (zLH n) (eK lk L n) (eL lk L n) := h
    rcases nwL_in h with a | a
    · rcases eL_in n a with b | b
      · exact Or.inl b
      · exact Or.inr (by unfold zLH at b ⊢; omega)
    · exact Or.inr (by unfold zLH at a ⊢; omega)
theorem eK_st {lk : zLk} {L : List Nat} (h : zLine lk L) {n j : Nat} (hn : n ≤ j) (hj : j < 9) : (eK lk L n (720 + j) = none ∧ ∀ i, i < 64 → zLH j + i ∉ eL lk L n) ∨ (eK lk L n (720 + j) = some (zLH j) ∧ zHo (eK lk L n) (zLH j)) := by
  have e1 : eK lk L n (720 + j) = lk (720 + j) := eK_ge hj (Or.inl rfl) n hn
  rcases h j hj with ⟨a, b⟩ | ⟨a, b⟩
  · refine Or.inl ⟨e1.trans a, fun i hi z => ?_⟩
    rcases eL_in n z with y | y
    · exact b i hi y
    · unfold zLH at y; omega
  · exact Or.inr ⟨e1.trans a, b.lb (b := 0) (fun x h1 h2 => eK_ge hj (Or.inr ⟨h1, h2⟩) n hn)⟩
theorem eK_lt {lk : zLk} {L : List Nat} (h : zLine lk L) {j : Nat} : ∀ n, n ≤ 9 → j < n → eK lk L n (720 + j) = some (zLH j) ∧ zHo (eK lk L n) (zLH j)
  | 0, _, h2 => by omega
  | n + 1, h1, h2 => by
    have hs := eK_st h (Nat.le_refl n) (show n < 9 by omega)
    by_cases z : j = n
    · subst z
      refine ⟨nwK_at (hs.imp And.left And.left), ?_⟩
      exact nwK_ho (i := 31 + j) (hs.imp And.left id) (by omega)
    · obtain ⟨a, b⟩ := eK_lt h n (by omega) (show j < n by omega)
      refine ⟨?_, ?_⟩
      · show nwK (720 + n) (zLH n) (eK lk L n) (720 + j) = _
        unfold zLH at a ⊢
        rw [nwK_ne (by omega) (by omega)]
        exact a
      · refine b.lb (b := 0) (fun x h3 h4 => ?_)
        show nwK (720 + n) (zLH n) (eK lk L n) x = _
        unfold zLH at h3 h4 ⊢
        rw [nwK_ne (by omega) (by omega)]
theorem eL_le {lk : zLk} {L : List Nat} {n : Nat} : ∀ k, (eL lk L n).length ≤ (eL lk L (n + k)).length
  | 0 => Nat.le_refl _
  | k + 1 => Nat.le_trans (eL_le k) (nwL_le _ _ _ _)
theorem eL_le' {lk : zLk} {L : List Nat} {n m : Nat} (h : n ≤ m) : (eL lk L n).length ≤ (eL lk L m).length := by
  have := eL_le (lk := lk) (L := L) (n := n) (m - n)
  rw [show n + (m - n) = m by omega] at this
  exact this
theorem eK_ks {lk : zLk} {L : List Nat} (hk : zKs lk) {n : Nat} (hn : n ≤ 9) : zKs (eK lk L n) := by
  refine ⟨fun p hp => ?_, fun j hj => ?_⟩
  · have h7 : ¬ (720 ≤ p.1 ∧ p.1 < 729) ∧ p.1 < 10000 := (by decide : ∀ p, p ∈ zKl → ¬ (720 ≤ p.1 ∧ p.1 < 729) ∧ p.1 < 10000) p hp
    rw [eK_ne h7.1 (by unfold zLH; omega) n hn]; exact hk.1 p hp
  · rw [eK_ne (by omega) (by unfold zLH; omega) n hn]; exact hk.2 j hj
theorem eK_ho {lk : zLk} {L : List Nat} {i n : Nat} (hh : zHo lk (10000 + 64 * i)) (hi : i < 31) (hn : n ≤ 9) : zHo (eK lk L n) (10000 + 64 * i) := hh.lb (b := 0) (fun x h1 h2 => eK_ne (by omega) (by unfold zLH; omega) n hn)
theorem zLine.e {lk : zLk} {L : List Nat} (h : zLine lk L) {n : Nat} (hn : n ≤ 9) : zLine (eK lk L n) (eL lk L n) := fun j hj => by
  by_cases z : j < n
  · exact Or.inr (eK_lt h n hn z)
  · exact eK_st h (by omega) hj
section LI
variable {X d : Nat} {mem : zMem} {lk : zLk} {L : List Nat} {Q : Option Value → zMem → Prop}
theorem in9 {X s : Nat} (h : s < 9) : vp_in (nI s) (ln X 720) := vp_in_nI h (by show 9 < 2 ^ 31; decide)
theorem line_tail {k : Nat} (h9 : k < 9) (hk : zKs lk) (ha : lk (720 + k) = some (zLH k)) (q : Q (some (.ref (zLH k))) mem) : zE X d 38 22 [.ref 710, .int (nI k)] [] mem lk L lk L Q := by
  have ea : (nI k).toNatClampNeg = k := nC (by omega)
  refine zE_do 40 22 (tbl := tX2_lineAt) zck_38 rfl (h := ?_)
  refine ⟨rfl, _, hk.at 711 720, Or.inl rfl, in9 h9, fun z => ?_, fun t ht => ?_⟩
  · exfalso
    have z : lk (720 + (nI k).toNatClampNeg) = none := z
    rw [ea, ha] at z; cases z
  · have ht : lk (720 + (nI k).toNatClampNeg) = some t := ht
    rw [ea, ha] at ht
    cases ht
    exact ⟨rfl, rfl, q⟩
/-- the k-th house of the line, when the first n are there -/
theorem ok_lineAt {k n : Nat} {x : Int32} (ex : x = nI k) (hd : 1 < d) (h9 : k < 9) (hkn : k ≤ n) (hn : n ≤ 9) (hk : zKs lk) (hl : zLine lk L)
    (q : ∀ mem', (k < n → mem' = mem) → zfb mem mem' (zLH k) → Q (some (.ref (zLH k))) mem') : zOk X d 38 [.ref 710, .int x] mem (eK lk L n) (eL lk L n) (eK lk L (max n (k + 1))) (eL lk L (max n (k + 1))) Q := by
  subst ex
  have ea : (nI k).toNatClampNeg = k := nC (by omega)
  have hk' : zKs (eK lk L n) := eK_ks hk hn
  by_cases z : k < n
  · rw [show max n (k + 1) = n by omega]
    have ha := (eK_lt hl n hn z).1
    refine zOk_doc [22] 60 (tbl := tX2_lineAt) zck_38 rfl (by omega) (h := ?_)
    refine ⟨rfl, _, hk'.at 711 720, Or.inl rfl, in9 h9, fun y => ?_, fun t ht => ?_⟩
    · exfalso
      have y : eK lk L n (720 + (nI k).toNatClampNeg) = none := y
      rw [ea, ha] at y; cases y
    · exact line_tail h9 hk' ha (q mem (fun _ => rfl) zfb.rf)
  · have e : n = k := by omega
    subst e
    rw [show max n (n + 1) = n + 1 by omega]
    have hs := eK_st hl (Nat.le_refl n) h9
    have hk2 : zKs (eK lk L (n + 1)) := eK_ks hk (by omega)
    have ha2 := (eK_lt hl (n + 1) (by omega) (Nat.lt_succ_self n)).1
    refine zOk_goc [22] 60 (tbl := tX2_lineAt) zck_38 rfl (by omega) (eL_le' (by omega)) (h := ?_)
    refine ⟨rfl, _, hk'.at 711 720, Or.inl rfl, in9 h9, fun y => ?_, fun t ht => ?_⟩
    · have y : eK lk L n (720 + (nI n).toNatClampNeg) = none := y
      rw [ea] at y
      have h0L : ∀ i, i < 64 → zLH n + i ∉ eL lk L n := by
        rcases hs with h | h
        · exact h.2
        · rw [h.1] at y; cases y
      have eK' : eK lk L (n + 1) = va_up (zhK (zLH n) (zclk (zLH n) (eK lk L n))) (720 + n) (some (zLH n)) := by
        show nwK (720 + n) (zLH n) (eK lk L n) = _
        unfold nwK; rw [y]
      have eL' : eL lk L (n + 1) = zhL (zLH n) (eL lk L n ++ [zLH n]) := by
        show nwL (720 + n) (zLH n) (eK lk L n) (eL lk L n) = _
        unfold nwL; rw [y]
      have hl5 : (zhL (zLH n) (eL lk L n ++ [zLH n])).length = (eL lk L n).length + 6 := by unfold zhL; simp only [List.length_append, List.length_cons, List.length_nil]
      have fm : zfb mem (zhM (zLH n) (zclr (zLH n) mem)) (zLH n) := (zfb.clr (i := 31 + n) (o := zLH n) (Nat.le_refl _) (by unfold zLH; omega)).tr (zhM_fb (31 + n) _)
      refine ⟨rfl, _, hk'.at 711 720, zLH n, kd_house (31 + n), h0L 0 (by omega), by rw [eL', hl5]; omega, zhK (zLH n) (zclk (zLH n) (eK lk L n)), zhL (zLH n) (eL lk L n ++ [zLH n]), by rw [eL']; exact Nat.le_refl _, by rw [hl5]; simp only [List.length_append, List.length_cons, List.length_nil]; omega, ok_newHouse (31 + n) (by omega) (fun j hj hj0 => ?_) ?_⟩
      · simp only [List.mem_append, List.mem_singleton, not_or]
        exact ⟨h0L j hj, by unfold zLH; omega⟩
      · refine ⟨rfl, kd_house (31 + n), in9 h9, ?_⟩
        have e1 : va_up (zhK (zLH n) (zclk (zLH n) (eK lk L n))) (720 + (nI n).toNatClampNeg) (some (zLH n)) = eK lk L (n + 1) := by rw [eK', ea]
        have kk := line_tail (X := X) (d := d) (L := eL lk L (n + 1)) (Q := Q) h9 hk2 ha2 (q (zhM (zLH n) (zclr (zLH n) mem)) (fun y => by omega) fm)
        have kk2 : zE X d 38 22 [.ref 710, .int (nI n)] [] (zhM (zLH n) (zclr (zLH n) mem)) (va_up (zhK (zLH n) (zclk (zLH n) (eK lk L n))) (720 + (nI n).toNatClampNeg) (some (zLH n))) (zhL (zLH n) (eL lk L n ++ [zLH n])) (eK lk L (n + 1)) (eL lk L (n + 1)) Q := by rw [e1, ← eL']; exact kk
        exact kk2
    · have ht : eK lk L n (720 + (nI n).toNatClampNeg) = some t := ht
      rw [ea] at ht
      have eK' : eK lk L (n + 1) = eK lk L n := by
        show nwK (720 + n) (zLH n) (eK lk L n) = _
        unfold nwK; rw [ht]
      have eL' : eL lk L (n + 1) = eL lk L n := by
        show nwL (720 + n) (zLH n) (eK lk L n) (eL lk L n) = _
        unfold nwL; rw [ht]
      have kk := line_tail (X := X) (d := d) (L := eL lk L (n + 1)) (Q := Q) h9 hk2 ha2 (q mem (fun _ => rfl) zfb.rf)
      have kk2 : zE X d 38 22 [.ref 710, .int (nI n)] [] mem (eK lk L n) (eL lk L n) (eK lk L (n + 1)) (eL lk L (n + 1)) Q := by
        have kk3 := kk
        rw [eK', eL'] at kk3
        rw [eK', eL']; exact kk3
      exact kk2
end LI
