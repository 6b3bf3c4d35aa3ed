/-! as, of the class and of the reference -/
section AS
variable {X d : Nat} {mem : zMem} {lk : zLk} {L : List Nat} {Q : Option Value → zMem → Prop} {g : zH}
theorem ok_isKindX {x : Int32} (hd : 0 < d) (q1 : ∀ k, k < 6 → x = nI k → Q (some (.int (nI 1))) mem) (q0 : (x.toInt < 0 ∨ 5 < x.toInt) → Q (some (.int (nI 0))) mem) : zOk X d 6 [.int x] mem lk L lk L Q := by
  have n6 : (nI 6).toInt = 6 := nT (by omega)
  refine zOk_do 20 (tbl := tX1_isKind) zck_6 rfl hd (h := ?_)
  refine ⟨fun c => ⟨rfl, rfl, rfl, q0 (Or.inl ?_)⟩, fun c => ⟨by decide, fun c2 => ⟨rfl, rfl, rfl, q0 (Or.inr ?_)⟩, fun c2 => ⟨rfl, rfl, rfl, ?_⟩⟩⟩
  · have c : x < 0 := c
    rw [i_lt, i_0] at c; exact c
  · have c2 : nI 6 ≤ x := c2
    rw [i_le, n6] at c2; omega
  · have c : ¬ x < 0 := c
    have c2 : ¬ nI 6 ≤ x := c2
    rw [i_lt, i_0] at c
    rw [i_le, n6] at c2
    rcases zix x (n := 6) (by omega) with ⟨k, hk, ex⟩ | z
    · exact q1 k hk ex
    · omega
theorem ok_as {x y : Int32} (hd : 3 < d) (hk : zKs lk) (hh : zHo lk 10000) (hb : zHB mem 10000 g) (hN : zNow g) (hS : zSt mem)
    (qB : ((x.toInt < 0 ∨ (g 0 : Int) ≤ x.toInt) ∨ (y.toInt < 0 ∨ 5 < y.toInt)) → Q (some (.int (-(nI 1000001)))) mem)
    (q1 : ∀ e k, e < g 0 → x = nI e → k < 6 → y = nI k → (k = 0 ∨ g (7 + e) = k ∨ zNK.getD (g (7 + e)) 0 = k) → Q (some (.int (nI e))) (upd mem 109 (nI 0)))
    (q0 : ∀ e k, e < g 0 → x = nI e → k < 6 → y = nI k → ¬ (k = 0 ∨ g (7 + e) = k ∨ zNK.getD (g (7 + e)) 0 = k) → Q (some (.int (-(nI 1000010) - nI 3))) (upd mem 109 (nI 3))) : zOk X d 123 [.ref 100, .int x, .int y] mem lk L lk L Q := by
  have w0 := hN.le.1
  refine zOk_do 80 (tbl := tX7_as) zck_123 rfl (by omega) (h := ?_)
  refine ⟨rfl, _, hk.at 102 10000, by rw [hh.k3]; rfl, ok_isDish (by omega) hh hb hN.le.1 (fun e he ex => zT_eq ?_) (fun c => zF_eq ⟨rfl, rfl, qB (Or.inl c)⟩)⟩
  have wf := (hN.wf (by omega)).1
  obtain ⟨w1, -⟩ := wf.2.2.2.2.2.2.2.2 e he
  refine ok_isKindX (by omega) (fun k hk6 ey => zT_ne ?_) (fun c => zF_ne ⟨rfl, rfl, qB (Or.inr c)⟩)
  have p1 := q1 e k he ex hk6 ey
  have p0 := q0 e k he ex hk6 ey
  subst ex ey
  have ea : mem (10000 + (7 + 6 * 0) + (nI e).toNatClampNeg) = nI (g (7 + e)) := by rw [nC (by omega)]; exact hb.kind he
  refine ⟨rfl, _, hk.at 102 10000, hh.k3, _, hh.lk 0 (by omega), Or.inl (hh.ka 0 (by omega)), hh.inn (by omega), ?_⟩
  rw [ea]
  refine ok_isOne (by omega) hS (by omega) hk6 (fun z => zT_eq ⟨rfl, ok_foundNothing (by omega) ⟨rfl, rfl, p1 z⟩⟩) (fun z => zF_eq ⟨rfl, ok_found (by omega) ⟨rfl, rfl, p0 z⟩⟩)
theorem zNK_t : ∀ own, own < 6 → ∀ k, k < 6 → 1 ≤ own → ((k = 0 ∨ own = k ∨ zNK.getD own 0 = k) ↔ (k = 0 ∨ k = own ∨ (k = 1 ∧ (own = 2 ∨ own = 3)) ∨ (k = 4 ∧ own = 5))) := fun own ho k hk h1 => by
  rcases (by omega : own = 1 ∨ own = 2 ∨ own = 3 ∨ own = 4 ∨ own = 5) with z | z | z | z | z <;> subst z
  · rw [show zNK.getD 1 0 = 0 from rfl]; omega
  · rw [show zNK.getD 2 0 = 1 from rfl]; omega
  · rw [show zNK.getD 3 0 = 1 from rfl]; omega
  · rw [show zNK.getD 4 0 = 0 from rfl]; omega
  · rw [show zNK.getD 5 0 = 4 from rfl]; omega
theorem ok_misA {own k : Nat} (hd : 0 < d) (h1 : 1 ≤ own) (ho : own < 6) (hk : k < 6) (q1 : (k = 0 ∨ own = k ∨ zNK.getD own 0 = k) → Q (some (.int (nI 1))) mem) (q0 : ¬ (k = 0 ∨ own = k ∨ zNK.getD own 0 = k) → Q (some (.int (nI 0))) mem) : zOk X d 204 [.int (nI own), .int (nI k)] mem lk L lk L Q := by
  rw [zNK_t own ho k hk h1] at q1 q0
  have e1 : ∀ j, j < 1000 → (nI k = nI j ↔ k = j) := fun j hj => nEq (by omega) (by omega)
  have e2 : ∀ j, j < 1000 → (nI own = nI j ↔ own = j) := fun j hj => nEq (by omega) (by omega)
  have e3 : nI k = nI own ↔ k = own := nEq (by omega) (by omega)
  have e4 : nI k = 0 ↔ k = 0 := n0 (by omega)
  refine zOk_do 60 (tbl := tX8_isA) zck_204 rfl hd (h := ?_)
  refine ⟨fun c => ⟨rfl, rfl, rfl, q1 (Or.inl (e4.mp c))⟩, fun c0 => ⟨fun c => ⟨rfl, rfl, rfl, q1 (Or.inr (Or.inl (e3.mp c)))⟩, fun c1 => ⟨fun c2 => ⟨fun c3 => ⟨rfl, rfl, rfl, q0 ?_⟩, fun c3 => ⟨fun c4 => ⟨rfl, rfl, rfl, q0 ?_⟩, fun c4 => ⟨rfl, rfl, rfl, q1 ?_⟩⟩⟩, fun c2 => ⟨fun c3 => ⟨rfl, rfl, rfl, q1 ?_⟩, fun c3 => ⟨fun c4 => ⟨rfl, rfl, rfl, q1 ?_⟩, fun c4 => ⟨fun c5 => ⟨rfl, rfl, rfl, q0 ?_⟩, fun c5 => ⟨fun c6 => ⟨rfl, rfl, rfl, q0 ?_⟩, fun c6 => ⟨rfl, rfl, rfl, q1 ?_⟩⟩⟩⟩⟩⟩⟩⟩
  · have c0 : ¬ k = 0 := fun z => c0 (e4.mpr z)
    have c1 : ¬ k = own := fun z => c1 (e3.mpr z)
    have c2 : ¬ k = 1 := fun z => c2 ((e1 1 (by omega)).mpr z)
    have c3 : ¬ k = 4 := fun z => c3 ((e1 4 (by omega)).mpr z)
    omega
  · have c0 : ¬ k = 0 := fun z => c0 (e4.mpr z)
    have c1 : ¬ k = own := fun z => c1 (e3.mpr z)
    have c2 : ¬ k = 1 := fun z => c2 ((e1 1 (by omega)).mpr z)
    have c4 : ¬ own = 5 := fun z => c4 ((e2 5 (by omega)).mpr z)
    omega
  · have c3 : k = 4 := (e1 4 (by omega)).mp c3
    have c4 : own = 5 := (e2 5 (by omega)).mp c4
    omega
  · have c2 : k = 1 := (e1 1 (by omega)).mp c2
    have c3 : own = 2 := (e2 2 (by omega)).mp c3
    omega
  · have c2 : k = 1 := (e1 1 (by omega)).mp c2
    have c4 : own = 3 := (e2 3 (by omega)).mp c4
    omega
  · have c1 : ¬ k = own := fun z => c1 (e3.mpr z)
    have c2 : k = 1 := (e1 1 (by omega)).mp c2
    have c3 : ¬ own = 2 := fun z => c3 ((e2 2 (by omega)).mpr z)
    have c4 : ¬ own = 3 := fun z => c4 ((e2 3 (by omega)).mpr z)
    omega
  · have c1 : ¬ k = own := fun z => c1 (e3.mpr z)
    have c2 : k = 1 := (e1 1 (by omega)).mp c2
    have c5 : k = 4 := (e1 4 (by omega)).mp c5
    omega
  · have c2 : k = 1 := (e1 1 (by omega)).mp c2
    have c5 : k = 4 := (e1 4 (by omega)).mp c5
    omega
theorem ok_mas {x y : Int32} (hd : 3 < d) (hk : zML lk) (hb : zHB mem 2000 g) (hN : zNow g)
    (qB : ((x.toInt < 0 ∨ (g 0 : Int) ≤ x.toInt) ∨ (y.toInt < 0 ∨ 5 < y.toInt)) → Q (some (.int (-(nI 1000001)))) mem)
    (q1 : ∀ e k, e < g 0 → x = nI e → k < 6 → y = nI k → (k = 0 ∨ g (7 + e) = k ∨ zNK.getD (g (7 + e)) 0 = k) → Q (some (.int (nI e))) (upd mem 1005 (nI 0)))
    (q0 : ∀ e k, e < g 0 → x = nI e → k < 6 → y = nI k → ¬ (k = 0 ∨ g (7 + e) = k ∨ zNK.getD (g (7 + e)) 0 = k) → Q (some (.int (-(nI 1000010) - nI 3))) (upd mem 1005 (nI 3))) : zOk X d 205 [.ref 1000, .int x, .int y] mem lk L lk L Q := by
  have w0 := hN.le.1
  refine zOk_do 80 (tbl := tX8_as) zck_205 rfl (by omega) (h := ?_)
  refine ⟨rfl, ok_misDish (by omega) hk.1 hb hN.le.1 (fun e he ex => zT_eq ?_) (fun c => zF_eq ⟨rfl, rfl, qB (Or.inl c)⟩)⟩
  have wf := (hN.wf (by omega)).1
  obtain ⟨w1, -⟩ := wf.2.2.2.2.2.2.2.2 e he
  refine ok_min (a := 0) (b := 5) (by omega) (by omega) (by omega) (fun c => zF_ne ⟨rfl, rfl, qB (Or.inr (by omega))⟩) (fun k h1 h2 ey => zT_ne ?_)
  have p1 := q1 e k he ex (by omega) ey
  have p0 := q0 e k he ex (by omega) ey
  subst ex ey
  have e7 : mem (2000 + (nI 7 + nI e).toNatClampNeg) = nI (g (7 + e)) := by rw [zw1 (by omega), show 2000 + (7 + e) = 2000 + 7 + e by omega]; exact hb.kind he
  refine ⟨rfl, _, hk.1, Or.inl rfl, zwi1 (by omega), ?_⟩
  rw [e7]
  exact ok_misA (by omega) w1.1 (by omega) (by omega) (fun z => zT_ne ⟨rfl, rfl, rfl, p1 z⟩) (fun z => zF_ne ⟨rfl, ok_mfinds (by omega) ⟨rfl, rfl, p0 z⟩⟩)
end AS
