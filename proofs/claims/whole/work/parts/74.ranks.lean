/-! ranks, of the class -/
def zCache (mem : zMem) : Prop := (∃ o, zOm mem o) ∧ ∃ k, mem 744 = nI k ∧ k ≤ 40 ∧ (k = 0 ∨ ∃ gs : zH, zHB mem 10256 gs ∧ zWF gs ∧ gs 6 ≤ 999 ∧ 0 < gs 0 ∧ zSOm mem (gs 0) (zRes gs k))
def zpofr (mem mem' : zMem) : Prop := ∀ x, x ≠ 744 → x ≠ 745 → ¬ (750 ≤ x ∧ x < 756) → ¬ (760 ≤ x ∧ x < 766) → ¬ (10192 ≤ x ∧ x < 10192 + 37) → ¬ (10256 ≤ x ∧ x < 10256 + 37) → mem' x = mem x
theorem zsame.rf {g : zH} : zsame g g := ⟨fun _ _ => rfl, fun _ _ _ _ => rfl⟩
theorem zsame.hb {g g' : zH} {mem : zMem} {b : Nat} (h : zsame g g') (hb : zHB mem b g) : zHB mem b g' :=
  ⟨fun k hk => by rw [← h.1 k hk]; exact hb.1 k hk, fun f e hf he => by
    rw [← h.1 0 (by omega)] at he
    rw [← h.2 f e hf he]; exact hb.2 f e hf he⟩
def zrankA (g : zH) (n : Nat) (y : Int32) : Int32 := if y.toInt < 0 then nI (zRes g n).1 else (zRes g n).2 y.toNatClampNeg
section RA
variable {X d : Nat} {mem : zMem} {lk : zLk} {L : List Nat} {Q : Option Value → zMem → Prop} {g : zH}
theorem zub_0 (o : Nat → Nat) : nI 0 = nI (zub o 0) := rfl
theorem search_miss {n : Nat} (hn : 1 ≤ n ∧ n ≤ 40) (hd : 14 < d) (hk : zKs lk) (ht : zHo lk 10192) (hs : zHo lk 10256) (ho : zHo lk 10000) (hb : zHB mem 10000 g) (wf : zWF g) (h6 : g 6 ≤ 999) (h0 : 0 < g 0) (hO : ∃ o, zOm mem o)
    (q : ∀ mem', zCache mem' → zSOm mem' (g 0) (zRes g n) → zpofr mem mem' → Q none mem') : zE X d 65 20 [.ref 740, .ref 10000, .int (nI n)] [] mem lk L lk L Q := by
  obtain ⟨o, hO⟩ := hO
  have w0 := wf.1
  refine zE_do 60 20 (tbl := tX4_search) zck_65 rfl (h := ?_)
  refine ⟨rfl, _, hk.at 741 10256, by rw [hs.k3]; rfl, ok_become (by omega) hs ho (by omega) hb w0 (fun m1 hb1 f1 => ⟨rfl, rfl, rfl, ?_⟩)⟩
  have F1 : zpofr mem (upd (upd m1 (740 + 4) (nI n)) (740 + 5) (nI 1000)) := fun x a1 a2 a3 a4 a5 a6 => by rw [upd_ne a2, upd_ne a1, f1 x a6]
  have hO1 : zOm (upd (upd m1 (740 + 4) (nI n)) (740 + 5) (nI 1000)) o := hO.fr (fun x y1 y2 => by rw [upd_ne (by omega), upd_ne (by omega), f1 x (by omega)])
  have hb2 : zHB (upd (upd m1 (740 + 4) (nI n)) (740 + 5) (nI 1000)) 10256 g := hb1.same w0 (fun j hj => by rw [upd_ne (by omega), upd_ne (by omega)])
  have e744 : upd (upd m1 (740 + 4) (nI n)) (740 + 5) (nI 1000) 744 = nI n := by rw [upd_ne (by omega)]; exact upd_eq
  have hS1 : zSOm (upd (upd m1 (740 + 4) (nI n)) (740 + 5) (nI 1000)) (g 0) (1000, fun j => upd (upd m1 (740 + 4) (nI n)) (740 + 5) (nI 1000) (760 + j)) := ⟨upd_eq, by show 1000 < 2147483648; omega, fun j hj => rfl⟩
  have hz := fun S (hS : 1000 ≤ S.1) => zRes_nd (g := g) (n := n) (S := S) (o := o) wf hn.2 h6 hS
  refine ok_ofill hn.2 hk ht hs wf h6 (g 0) 0 o _ _ _ _ _ _ rfl (zub_0 o) (by omega) (by omega) ⟨fun j hj => by omega, fun i j hi => by omega⟩ hb2 e744 hO1 hS1 (fun m2 o2 _ a2 a3 f2 => ⟨rfl, rfl, ?_⟩)
  rw [hz _ (by show 1000 ≤ 1000; omega)] at a3
  have hb3 : zHB m2 10256 g := hb2.same w0 (fun j hj => f2 _ (by omega) (by omega) (by omega) (by omega))
  refine q m2 ⟨⟨o2, a2⟩, n, by rw [f2 _ (by omega) (by omega) (by omega) (by omega)]; exact e744, hn.2, Or.inr ⟨g, hb3, wf, h6, h0, a3⟩⟩ a3 (fun x a1 a2 a3 a4 a5 a6 => by rw [f2 x a2 a3 a4 a5, F1 x a1 a2 a3 a4 a5 a6])
theorem ok_search {n : Nat} (hn : 1 ≤ n ∧ n ≤ 40) (hd : 14 < d) (hk : zKs lk) (ht : zHo lk 10192) (hs : zHo lk 10256) (ho : zHo lk 10000) (hb : zHB mem 10000 g) (wf : zWF g) (h6 : g 6 ≤ 999) (h0 : 0 < g 0) (hC : zCache mem)
    (q : ∀ mem' gs, zsame g gs → zCache mem' → zSOm mem' (gs 0) (zRes gs n) → zpofr mem mem' → Q none mem') : zOk X d 65 [.ref 740, .ref 10000, .int (nI n)] mem lk L lk L Q := by
  have hC' := hC
  obtain ⟨hO, k, e744, hk40, hc⟩ := hC
  have e744' : mem (740 + 4) = nI k := e744
  have miss := search_miss (X := X) (L := L) (Q := Q) hn hd hk ht hs ho hb wf h6 h0 hO (fun m' a1 a2 a3 => q m' g zsame.rf a1 a2 a3)
  refine zOk_doc [20] 60 (tbl := tX4_search) zck_65 rfl (by omega) (h := ?_)
  refine ⟨rfl, fun _ => miss, fun c => ?_⟩
  have c : nI n = mem (740 + 4) := c
  rw [e744', nEq (by omega) (by omega)] at c
  rcases hc with z | ⟨gs, s1, s2, s3, s4, s5⟩
  · omega
  · refine ⟨rfl, _, hk.at 741 10256, by rw [ho.k3]; rfl, ok_isAs (by omega) ho hs hb s1 wf s2 (fun z => zT_eq ⟨rfl, rfl, ?_⟩) (fun _ => zF_eq miss)⟩
    rw [← c] at s5
    exact q mem gs z hC' s5 (fun _ _ _ _ _ _ _ => rfl)
theorem ok_ranks {x y : Int32} (hd : 16 < d) (hk : zKs lk) (ht : zHo lk 10192) (hs : zHo lk 10256) (ho : zHo lk 10000) (hb : zHB mem 10000 g) (hN : zNow g) (hC : zCache mem)
    (qS : g 0 = 0 → Q (some (.int (-(nI 1000002)))) mem) (qB : 0 < g 0 → ((x.toInt < 1 ∨ 40 < x.toInt) ∨ y.toInt < -1) → Q (some (.int (-(nI 1000001)))) mem)
    (qN : ∀ n, 0 < g 0 → x = nI n → 1 ≤ n ∧ n ≤ 40 → (g 0 : Int) ≤ y.toInt → Q (some (.int (-(nI 1000000)))) mem)
    (q : ∀ n gs, 0 < g 0 → x = nI n → 1 ≤ n ∧ n ≤ 40 → -1 ≤ y.toInt → y.toInt < (g 0 : Int) → zsame g gs → ∀ mem', zCache mem' → zpofr mem mem' → Q (some (.int (zrankA gs n y))) mem') : zOk X d 113 [.ref 100, .int x, .int y] mem lk L lk L Q := by
  refine zOk_do 90 (tbl := tX7_ranks) zck_113 rfl (by omega) (h := ?_)
  refine ⟨rfl, _, hk.at 102 10000, by rw [ho.k3]; rfl, ok_stands (by omega) ho hb hN.le.1 (fun h0 => zT_ne ?_) (fun h0 => zF_ne ⟨rfl, rfl, qS h0⟩)⟩
  have wf := hN.wf h0
  have w0 := wf.1.1
  have e0 : mem (10000 + 0) = nI (g 0) := hb.k 0 (by omega)
  refine ok_isOutside (a := 1) (b := 40) (by omega) (by omega) (by omega) (fun c => zT_ne ⟨rfl, rfl, qB h0 (Or.inl (by omega))⟩) (fun n h1 h2 ex => zF_ne ⟨fun c => ⟨rfl, _, hk.at 102 10000, ho.k3, fun c2 => ?_, fun c2 => ⟨rfl, rfl, ?_⟩⟩, fun c => ⟨rfl, rfl, ?_⟩⟩)
  · have c : -(nI 1) ≤ y := c
    have c2 : y < mem (10000 + 0) := c2
    rw [i_le, zn1T] at c
    rw [e0, i_lt, nT (by omega)] at c2
    have p := fun gs => q n gs h0 ex ⟨h1, h2⟩ c c2
    subst ex
    refine ⟨rfl, _, hk.at 107 740, rfl, _, hk.at 102 10000, rfl, ok_search ⟨h1, h2⟩ (by omega) hk ht hs ho hb wf.1 wf.2 h0 hC (fun m1 gs a1 a2 a3 f1 => ⟨fun c3 => ?_, fun c3 => ?_⟩)⟩
    · have c3 : 0 ≤ y := c3
      rw [i_le, i_0] at c3
      have p1 := p gs a1 m1 a2 f1
      unfold zrankA at p1
      rw [if_neg (by omega)] at p1
      rcases zix y (n := g 0) (by omega) with ⟨j, hj, ey⟩ | z
      · subst ey
        have ej : (nI j).toNatClampNeg = j := nC (by omega)
        have eb : m1 (760 + (nI j).toNatClampNeg) = (zRes gs n).2 (nI j).toNatClampNeg := by rw [ej]; exact a3.2.2 j (by rw [← a1.1 0 (by omega)]; exact hj)
        rw [← eb] at p1
        exact ⟨rfl, _, hk.at 107 740, rfl, _, hk.at 743 760, Or.inl rfl, vp_in_nI (show j < 6 by omega) (by show 6 < 2 ^ 31; decide), rfl, rfl, p1⟩
      · omega
    · have c3 : ¬ 0 ≤ y := c3
      rw [i_le, i_0] at c3
      have p1 := p gs a1 m1 a2 f1
      unfold zrankA at p1
      rw [if_pos (by omega)] at p1
      have e5 : m1 (740 + 5) = nI (zRes gs n).1 := a3.1
      rw [← e5] at p1
      exact ⟨rfl, _, hk.at 107 740, rfl, rfl, rfl, p1⟩
  · have c2 : ¬ y < mem (10000 + 0) := c2
    rw [e0, i_lt, nT (by omega)] at c2
    exact qN n h0 ex ⟨h1, h2⟩ (by omega)
  · have c : ¬ -(nI 1) ≤ y := c
    rw [i_le, zn1T] at c
    exact qB h0 (Or.inr (by omega))
end RA
