/-! byTurns -/
def zmax (a b : Nat) : Nat := if a < b then b else a
def zmin (a b : Nat) : Nat := if b < a then b else a
def zpl (hf : Nat → Nat) (fl : Nat) : Nat → Nat → Nat → Nat
  | 0, _, f => hf f
  | k + 1, e, f => if e % 2 = 0 then (if 1 ≤ f then zmax (zpl hf fl k (e + 1) f) (zpl hf fl k (e + 1) (f - 1)) else zpl hf fl k (e + 1) f) else (if f + 1 < fl then zmin (zpl hf fl k (e + 1) f) (zpl hf fl k (e + 1) (f + 1)) else zpl hf fl k (e + 1) f)
theorem zpl_le (hf : Nat → Nat) (fl : Nat) (h : ∀ f, f < fl → hf f ≤ 1000) : ∀ k e f, f < fl → zpl hf fl k e f ≤ 1000
  | 0, _, f, hF => h f hF
  | k + 1, e, f, hF => by
    have h1 := zpl_le hf fl h k (e + 1) f hF
    unfold zpl zmax zmin
    split
    · split
      · have h2 := zpl_le hf fl h k (e + 1) (f - 1) (by omega)
        split <;> omega
      · omega
    · split
      · have h2 := zpl_le hf fl h k (e + 1) (f + 1) (by omega)
        split <;> omega
      · omega
def zHF (g : zH) (m f : Nat) : Nat := zwts (mnG m (va_up g 4 f)) 11 31 (g 0)
theorem zHF_le {g : zH} (wf : zWF g) {m : Nat} (h6 : g 6 + m ≤ 999999) : ∀ f, f < g 1 → zHF g m f ≤ 1000 := fun f hf => by
  have w4 : zWF (va_up g 4 f) := wf.s4 hf
  have e6 : va_up g 4 f 6 = g 6 := zup_ne (by omega)
  have e0 : va_up g 4 f 0 = g 0 := zup_ne (by omega)
  obtain ⟨w1, w2, w3⟩ := mnG_wf m (va_up g 4 f) w4 (by omega)
  have := wf.1
  have h1 : zwts (mnG m (va_up g 4 f)) 11 31 (g 0) ≤ g 0 * 60 := zwts_le _ _ _ 60 _ (fun e he => (w1.2.2.2.2.2.2.2.2 e (by omega)).2.2.2.2)
  unfold zHF
  omega
section BT
variable {X d : Nat} {mem : zMem} {lk : zLk} {L : List Nat} {Q : Option Value → zMem → Prop} {g : zH}
theorem ok_heatServedFrom {f n : Nat} {x : Int32} (ex : x = nI f) (hn : n ≤ 1000) (hd : 4 < d) (hk : zKs lk) (hh : zHo lk 10128) (ho : zHo lk 10000) (hb : zHB mem 10000 g) (wf : zWF g) (hf : f < g 1) (h6 : g 6 + n ≤ 999999) (hS : zSt mem) (q : ∀ mem', zfr mem mem' 10128 → Q (some (.int (nI (zHF g n f)))) mem') : zOk X d 28 [.ref 710, .ref 10000, .int x, .int (nI n)] mem lk L lk L Q := by
  subst ex
  have w4 : zWF (va_up g 4 f) := wf.s4 hf
  have e6 : va_up g 4 f 6 = g 6 := zup_ne (by omega)
  have e0 : va_up g 4 f 0 = g 0 := zup_ne (by omega)
  obtain ⟨w1, w2, w3⟩ := mnG_wf n (va_up g 4 f) w4 (by omega)
  refine zOk_do 40 (tbl := tX2_heatServedFrom) zck_28 rfl (by omega) (h := ?_)
  refine ⟨rfl, _, hk.at 710 10128, by rw [hh.k3]; rfl, ok_become (by omega) hh ho (by omega) hb wf.1 (fun m1 hb1 f1 => ⟨rfl, _, hk.at 710 10128, hh.k3, rfl, ?_⟩)⟩
  have f2 : zfr m1 (upd m1 (10128 + 4) (nI f)) 10128 := zfr.up (by omega) (by omega)
  have hS2 : zSt (upd m1 (10128 + 4) (nI f)) := hS.fr (f1.tr f2) (Or.inl (by omega))
  refine ok_passTrial hn (by omega) hk hh (hb1.set 4 f (by omega) rfl) w4 (by omega) hS2 (fun m3 hb3 f3 => ⟨rfl, _, hk.at 710 10128, rfl, _, hk.at 710 10128, by rw [hh.k3]; rfl, ok_served (by omega) hh hb3 w1.1 w1.at11 ⟨by rw [hh.k3]; rfl, ok_heatOf (by omega) hh hb3 w1 (zbits64 w1.1) ⟨rfl, rfl, ?_⟩⟩⟩)
  have hw6 := w1.1
  rw [zsum_bits _ 11 31 _ (by omega) _ (Nat.le_refl _), w2, e0]
  exact q m3 ((f1.tr f2).tr f3)
theorem pl_92 {c a b : Nat} {f e n t : Int32} {v8 : Value} (hc : c ≤ 1) (ha : a ≤ 1000) (hb : b ≤ 1000) (q : Q (some (.int (nI (if c = 0 then zmin a b else zmax a b)))) mem) : zE X d 27 92 [.ref 710, .ref 10000, .int f, .int e, .int n, .int t, .int (nI c), .int (nI a), v8, .int (nI b)] [] mem lk L lk L Q := by
  unfold zmin zmax at q
  refine zE_do 40 92 (tbl := tX2_playedFrom) zck_27 rfl (h := ?_)
  refine ⟨fun z => ⟨rfl, rfl, ?_⟩, fun z => ⟨rfl, rfl, ?_⟩⟩
  · have z : nI c = 0 := z
    rw [n0 (by omega)] at z
    rw [if_pos z] at q
    by_cases y : b < a
    · rw [if_pos y] at q
      rw [if_pos (by rw [nLt (by omega) (by omega)]; exact y)]
      exact q
    · rw [if_neg y] at q
      rw [if_neg (by rw [nLt (by omega) (by omega)]; exact y)]
      exact q
  · have z : ¬ nI c = 0 := z
    rw [n0 (by omega)] at z
    rw [if_neg z] at q
    by_cases y : a < b
    · rw [if_pos y] at q
      rw [if_pos (by rw [nLt (by omega) (by omega)]; exact y)]
      exact q
    · rw [if_neg y] at q
      rw [if_neg (by rw [nLt (by omega) (by omega)]; exact y)]
      exact q
theorem ok_playedFrom {n t : Nat} (hn : n ≤ 4) (ht : t ≤ 20) (hk : zKs lk) (hh : zHo lk 10128) (ho : zHo lk 10000) (wf : zWF g) (h6 : g 6 ≤ 999) : ∀ k e f mem (d : Nat) (Q : Option Value → zMem → Prop) (x y : Int32), x = nI f → y = nI e → e + k = n → f < g 1 → k + 5 < d → zHB mem 10000 g → zSt mem → (∀ mem', zfr mem mem' 10128 → Q (some (.int (nI (zpl (zHF g t) (g 1) k e f)))) mem') → zOk X d 27 [.ref 710, .ref 10000, .int x, .int y, .int (nI n), .int (nI t)] mem lk L lk L Q := by
  have w9 := wf.2.2.1
  have hle := zpl_le (zHF g t) (g 1) (zHF_le wf (by omega))
  intro k
  induction k with
  | zero =>
    intro e f mem d Q x y ex ey hek hf hd hb hS q
    subst ey
    have c1 : nI n ≤ nI e := by rw [nLe (by omega) (by omega)]; omega
    refine zOk_do 60 (tbl := tX2_playedFrom) zck_27 rfl (by omega) (h := ?_)
    exact ⟨fun _ => ⟨rfl, ok_heatServedFrom ex (by omega) (by omega) hk hh ho hb wf hf (by omega) hS (fun m1 f1 => ⟨rfl, rfl, q m1 f1⟩)⟩, fun c => absurd c1 c⟩
  | succ k ih =>
    intro e f mem d Q x y ex ey hek hf hd hb hS q
    subst ey
    subst ex
    have c1 : ¬ nI n ≤ nI e := by rw [nLe (by omega) (by omega)]; omega
    have c2 : nI e < nI 4 := by rw [nLt (by omega) (by omega)]; omega
    have hb' : ∀ m1, zfr mem m1 10128 → zHB m1 10000 g := fun m1 f1 => hb.same wf.1 (fun j hj => f1 _ (by omega))
    have hS' : ∀ m1, zfr mem m1 10128 → zSt m1 := fun m1 f1 => hS.fr f1 (Or.inl (by omega))
    have l1 := hle k (e + 1) f hf
    unfold zpl at q
    have K3 : ∀ c nx m1 v9, c ≤ 1 → zfr mem m1 10128 → (∀ f', f' < g 1 → nx = nI f' → ∀ m2, zfr mem m2 10128 → Q (some (.int (nI (if c = 0 then zmin (zpl (zHF g t) (g 1) k (e + 1) f) (zpl (zHF g t) (g 1) k (e + 1) f') else zmax (zpl (zHF g t) (g 1) k (e + 1) f) (zpl (zHF g t) (g 1) k (e + 1) f'))))) m2) → ((nx.toInt < 0 ∨ (g 1 : Int) ≤ nx.toInt) → Q (some (.int (nI (zpl (zHF g t) (g 1) k (e + 1) f)))) m1) →
        zE X d 27 64 [.ref 710, .ref 10000, .int (nI f), .int (nI e), .int (nI n), .int (nI t), .int (nI c), .int (nI (zpl (zHF g t) (g 1) k (e + 1) f)), .int nx, v9] [] m1 lk L lk L Q := fun c nx m1 v9 hc f1 q1 q0 => by
      refine zgoc [92] 60 64 (tbl := tX2_playedFrom) zck_27 rfl (h := ?_)
      refine ⟨by rw [ho.k3]; rfl, ok_isFloor (by omega) ho (hb' m1 f1) w9 (fun f' hf' ef => zT_ne ⟨rfl, ?_⟩) (fun cf => zF_ne ⟨rfl, rfl, q0 cf⟩)⟩
      exact ih (e + 1) f' m1 _ _ nx (nI e + nI 1) ef (nI_add e 1) (by omega) hf' (by omega) (hb' m1 f1) (hS' m1 f1) (fun m2 f2 => pl_92 hc l1 (hle k (e + 1) f' hf') (q1 f' hf' ef m2 (f1.tr f2)))
    have K2 : ∀ c m1 v8 v9, c = 1 - e % 2 → zfr mem m1 10128 → zE X d 27 48 [.ref 710, .ref 10000, .int (nI f), .int (nI e), .int (nI n), .int (nI t), .int (nI c), .int (nI (zpl (zHF g t) (g 1) k (e + 1) f)), v8, v9] [] m1 lk L lk L Q := fun c m1 v8 v9 hc f1 => by
      refine zgoc [64] 60 48 (tbl := tX2_playedFrom) zck_27 rfl (h := ?_)
      refine ⟨fun z => K3 c (nI f + nI 1) m1 v9 (by omega) f1 (fun f' hf' ef m2 f2 => ?_) (fun cf => ?_), fun z => K3 c (nI f - nI 1) m1 v9 (by omega) f1 (fun f' hf' ef m2 f2 => ?_) (fun cf => ?_)⟩
      · have z : nI c = 0 := z
        rw [n0 (by omega)] at z
        rw [nI_add, nEq (by omega) (by omega)] at ef
        rw [if_neg (by omega), if_pos (by omega), ef] at q
        rw [if_pos z]
        exact q m2 f2
      · have z : nI c = 0 := z
        rw [n0 (by omega)] at z
        rw [nI_add, nT (by omega)] at cf
        rw [if_neg (by omega), if_neg (by omega)] at q
        exact q m1 f1
      · have z : ¬ nI c = 0 := z
        rw [n0 (by omega)] at z
        have ef := congrArg Int32.toInt ef
        rw [nsubT (by omega) (by omega), nT (by omega)] at ef
        rw [if_pos (by omega), if_pos (by omega), show f - 1 = f' by omega] at q
        rw [if_neg z]
        exact q m2 f2
      · have z : ¬ nI c = 0 := z
        rw [n0 (by omega)] at z
        rw [nsubT (by omega) (by omega)] at cf
        rw [if_pos (by omega), if_neg (by omega)] at q
        exact q m1 f1
    have K1 : ∀ c v7 v8 v9, c = 1 - e % 2 → zE X d 27 33 [.ref 710, .ref 10000, .int (nI f), .int (nI e), .int (nI n), .int (nI t), .int (nI c), v7, v8, v9] [] mem lk L lk L Q := fun c v7 v8 v9 hc => by
      refine zgoc [48] 60 33 (tbl := tX2_playedFrom) zck_27 rfl (h := ?_)
      refine ⟨rfl, ?_⟩
      exact ih (e + 1) f mem _ _ (nI f) (nI e + nI 1) rfl (nI_add e 1) (by omega) hf (by omega) hb hS (fun m1 f1 => K2 c m1 v8 v9 hc f1)
    refine zOk_doc [33] 80 (tbl := tX2_playedFrom) zck_27 rfl (by omega) (h := ?_)
    refine ⟨fun c => absurd c c1, fun _ => ⟨fun _ => ⟨by decide, fun c => K1 0 _ _ _ ?_, fun c => K1 1 _ _ _ ?_⟩, fun c => absurd c2 c⟩⟩
    · have c : ¬ nI e - nI e / nI 2 * nI 2 = 0 := c
      rw [nrem (by omega) (by omega) (by omega), n0 (by omega)] at c
      omega
    · have c : nI e - nI e / nI 2 * nI 2 = 0 := c
      rw [nrem (by omega) (by omega) (by omega), n0 (by omega)] at c
      omega
theorem ok_byTurns {x y : Int32} (hd : 12 < d) (hk : zKs lk) (hh : zHo lk 10128) (ho : zHo lk 10000) (hb : zHB mem 10000 g) (hN : zNow g) (hS : zSt mem)
    (qS : g 0 = 0 → Q (some (.int (-(nI 1000002)))) mem) (qB : 0 < g 0 → ((x.toInt < 0 ∨ 4 < x.toInt) ∨ (y.toInt < 1 ∨ 20 < y.toInt)) → Q (some (.int (-(nI 1000001)))) mem)
    (q : ∀ n t, 0 < g 0 → x = nI n → n ≤ 4 → y = nI t → 1 ≤ t ∧ t ≤ 20 → ∀ mem', zfr mem mem' 10128 → Q (some (.int (nI (zpl (zHF g t) (g 1) n 0 (g 4))))) mem') : zOk X d 116 [.ref 100, .int x, .int y] mem lk L lk L Q := by
  refine zOk_do 60 (tbl := tX7_byTurns) zck_116 rfl (by omega) (h := ?_)
  refine ⟨rfl, _, hk.at 102 10000, by rw [ho.k3]; rfl, ok_stands (by omega) ho hb hN.le.1 (fun h0 => zT_ne ?_) (fun h0 => zF_ne ⟨rfl, rfl, qS h0⟩)⟩
  have wf := hN.wf h0
  have w4 := wf.1.2.2.2.2.2.1
  refine ok_isOutside (a := 0) (b := 4) (by omega) (by omega) (by omega) (fun c => zT_ne ⟨rfl, rfl, qB h0 (Or.inl (by omega))⟩) (fun n h1 h2 ex => zF_ne ?_)
  refine ok_isOutside (a := 1) (b := 20) (by omega) (by omega) (by omega) (fun c => zT_eq ⟨rfl, rfl, qB h0 (Or.inr (by omega))⟩) (fun t h3 h4 ey => zF_eq ?_)
  have p := q n t h0 ex h2 ey ⟨h3, h4⟩
  subst ex ey
  refine ⟨rfl, _, hk.at 106 710, rfl, _, hk.at 102 10000, rfl, ?_⟩
  refine zOk_do 40 (tbl := tX2_played) zck_26 rfl (by omega) (h := ?_)
  exact ⟨ho.k3, rfl, ok_playedFrom h2 h4 hk hh ho wf.1 wf.2 n 0 (g 4) mem _ _ _ _ (hb.k 4 (by omega)) rfl (by omega) w4 (by omega) hb hS (fun m1 f1 => ⟨rfl, rfl, rfl, rfl, p m1 f1⟩)⟩
end BT
