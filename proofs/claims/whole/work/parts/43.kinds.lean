/-! kind, fault, status, trace -/
section KD
variable {X d : Nat} {mem : zMem} {lk : zLk} {L : List Nat} {Q : Option Value → zMem → Prop} {g : zH}
theorem ok_kind {x : Int32} (hd : 3 < d) (hk : zKs lk) (hh : zHo lk 10000) (hb : zHB mem 10000 g) (hN : zNow g) (qB : (x.toInt < 0 ∨ (g 0 : Int) ≤ x.toInt) → Q (some (.int (-(nI 1000001)))) mem) (q : ∀ e, e < g 0 → x = nI e → Q (some (.int (nI (g (7 + e))))) mem) : zOk X d 122 [.ref 100, .int x] mem lk L lk L Q := by
  have w0 := hN.le.1
  refine zOk_do 80 (tbl := tX7_kind) zck_122 rfl (by omega) (h := ?_)
  refine ⟨rfl, _, hk.at 102 10000, by rw [hh.k3]; rfl, ok_isDish (by omega) hh hb hN.le.1 (fun e he ex => zT_eq ?_) (fun c => zF_eq ⟨rfl, rfl, qB c⟩)⟩
  have p := q e he ex
  subst ex
  have ea : mem (10000 + (7 + 6 * 0) + (nI e).toNatClampNeg) = nI (g (7 + e)) := by rw [nC (by omega)]; exact hb.kind he
  rw [← ea] at p
  exact ⟨rfl, _, hk.at 102 10000, hh.k3, _, hh.lk 0 (by omega), Or.inl (hh.ka 0 (by omega)), hh.inn (by omega), rfl, rfl, p⟩
theorem ok_mkind {x : Int32} (hd : 3 < d) (hk : zML lk) (hb : zHB mem 2000 g) (hN : zNow g) (qB : (x.toInt < 0 ∨ (g 0 : Int) ≤ x.toInt) → Q (some (.int (-(nI 1000001)))) mem) (q : ∀ e, e < g 0 → x = nI e → Q (some (.int (nI (g (7 + e))))) mem) : zOk X d 203 [.ref 1000, .int x] mem lk L lk L Q := by
  have w0 := hN.le.1
  refine zOk_do 80 (tbl := tX8_kind) zck_203 rfl (by omega) (h := ?_)
  refine ⟨rfl, ok_misDish (by omega) hk.1 hb hN.le.1 (fun e he ex => zT_eq ?_) (fun c => zF_eq ⟨rfl, rfl, qB c⟩)⟩
  have p := q e he ex
  subst ex
  have e7 : mem (2000 + (nI 7 + nI e).toNatClampNeg) = nI (g (7 + e)) := by rw [zw1 (by omega), show 2000 + (7 + e) = 2000 + 7 + e by omega]; exact hb.kind he
  rw [← e7] at p
  exact ⟨rfl, _, hk.1, Or.inl rfl, zwi1 (by omega), rfl, rfl, p⟩
theorem ok_fault (hd : 0 < d) (hk : zKs lk) (q : Q (some (.int (mem 533))) mem) : zOk X d 97 [.ref 100] mem lk L lk L Q := by
  refine zOk_do 20 (tbl := tX7_fault) zck_97 rfl hd (h := ?_)
  exact ⟨rfl, _, hk.at 101 530, rfl, rfl, rfl, q⟩
theorem ok_mfault (hd : 0 < d) (q : Q (some (.int (mem 1004))) mem) : zOk X d 156 [.ref 1000] mem lk L lk L Q := by
  refine zOk_do 20 (tbl := tX8_fault) zck_156 rfl hd (h := ?_)
  exact ⟨rfl, rfl, rfl, q⟩
theorem ok_status (hd : 0 < d) (q : Q (some (.int (mem 109))) mem) : zOk X d 127 [.ref 100] mem lk L lk L Q := by
  refine zOk_do 20 (tbl := tX7_status) zck_127 rfl hd (h := ?_)
  exact ⟨rfl, rfl, rfl, q⟩
theorem ok_mstatus (hd : 0 < d) (q : Q (some (.int (mem 1005))) mem) : zOk X d 220 [.ref 1000] mem lk L lk L Q := by
  refine zOk_do 20 (tbl := tX8_status) zck_220 rfl hd (h := ?_)
  exact ⟨rfl, rfl, rfl, q⟩
theorem ok_trace {x : Int32} {t : Nat} (hd : 0 < d) (hk : zKs lk) (ht : mem 771 = nI t) (h16 : t ≤ 16) (q0 : (x.toInt < 0 ∨ (t : Int) ≤ x.toInt) → Q (some (.int (-(nI 1000000)))) mem) (q : ∀ i, i < t → x = nI i → Q (some (.int (mem (780 + i)))) mem) : zOk X d 125 [.ref 100, .int x] mem lk L lk L Q := by
  refine zOk_do 40 (tbl := tX7_trace) zck_125 rfl hd (h := ?_)
  refine ⟨fun c => ⟨rfl, rfl, q0 (Or.inl ?_)⟩, fun c => ⟨rfl, _, hk.at 108 770, rfl, fun c2 => ?_, fun c2 => ⟨rfl, rfl, q0 (Or.inr ?_)⟩⟩⟩
  · have c : x < 0 := c
    rw [i_lt, i_0] at c; exact c
  · have c : ¬ x < 0 := c
    have c2 : x < mem (770 + 1) := c2
    rw [i_lt, i_0] at c
    rw [show mem (770 + 1) = nI t from ht, i_lt, nT (by omega)] at c2
    rcases zix x (n := t) (by omega) with ⟨i, hi, ex⟩ | z
    · have p := q i hi ex
      subst ex
      have e1 : 780 + (nI i).toNatClampNeg = 780 + i := by rw [nC (by omega)]
      rw [← e1] at p
      exact ⟨rfl, _, hk.at 108 770, rfl, _, hk.at 770 780, Or.inl rfl, vp_in_nI (show i < 16 by omega) (by show 16 < 2 ^ 31; decide), rfl, rfl, p⟩
    · omega
  · have c2 : ¬ x < mem (770 + 1) := c2
    rw [show mem (770 + 1) = nI t from ht, i_lt, nT (by omega)] at c2
    omega
theorem ok_mtrace {x : Int32} {t : Nat} (hd : 1 < d) (hk : zML lk) (ht : mem 1018 = nI t) (h16 : t ≤ 16) (q0 : (x.toInt < 0 ∨ (t : Int) ≤ x.toInt) → Q (some (.int (-(nI 1000000)))) mem) (q : ∀ i, i < t → x = nI i → Q (some (.int (mem (3880 + i)))) mem) : zOk X d 216 [.ref 1000, .int x] mem lk L lk L Q := by
  have e1 : (mem (1000 + 18) - nI 1).toInt64.toInt = (t : Int) - 1 := by
    rw [il_T, show mem (1000 + 18) = nI t from ht, pk_sub_toInt (by omega) (by omega)]; rfl
  refine zOk_do 40 (tbl := tX8_trace) zck_216 rfl (by omega) (h := ?_)
  refine ⟨rfl, ok_in (by omega) (fun c1 c2 => zT_eq ?_) (fun c => zF_eq ⟨rfl, rfl, q0 ?_⟩)⟩
  · have c2 : x.toInt64.toInt ≤ (mem (1000 + 18) - nI 1).toInt64.toInt := c2
    rw [il_T, l_T (by omega)] at c1
    rw [il_T, e1] at c2
    rcases zix x (n := t) (by omega) with ⟨i, hi, ex⟩ | z
    · have p := q i hi ex
      subst ex
      have e1 : 3880 + (nI i).toNatClampNeg = 3880 + i := by rw [nC (by omega)]
      rw [← e1] at p
      exact ⟨rfl, _, hk.2.2.2.2.2.2.2.2.2.2, Or.inl rfl, vp_in_nI (show i < 16 by omega) (by show 16 < 2 ^ 31; decide), rfl, rfl, p⟩
    · omega
  · have c : x.toInt64.toInt < (lN 0).toInt ∨ (mem (1000 + 18) - nI 1).toInt64.toInt < x.toInt64.toInt := c
    rw [il_T, l_T (by omega), e1] at c
    omega
end KD
