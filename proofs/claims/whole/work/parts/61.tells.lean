/-! the class: a house is told -/
theorem zHB.add {mem mem' : zMem} {b e k v1 v2 v3 v4 : Nat} {g : zH} (hb : zHB mem b g) (hg : g 0 = e) (he : e < 6) (h0 : mem' (b + 0) = nI (e + 1)) (h7 : mem' (b + (7 + e)) = nI k) (h13 : mem' (b + (13 + e)) = nI v1) (h19 : mem' (b + (19 + e)) = nI v2) (h25 : mem' (b + (25 + e)) = nI v3) (h31 : mem' (b + (31 + e)) = nI v4)
    (hf : ∀ j, j < 37 → j ≠ 0 → j ≠ 7 + e → j ≠ 13 + e → j ≠ 19 + e → j ≠ 25 + e → j ≠ 31 + e → mem' (b + j) = mem (b + j)) : zHB mem' b (zadd g e k v1 v2 v3 v4) := by
  have n : ∀ j, j ≠ 0 → j ≠ 7 + e → j ≠ 13 + e → j ≠ 19 + e → j ≠ 25 + e → j ≠ 31 + e → zadd g e k v1 v2 v3 v4 j = g j := fun j a0 a1 a2 a3 a4 a5 => by
    unfold zadd
    rw [zup_ne a0, zup_ne a5, zup_ne a4, zup_ne a3, zup_ne a2, zup_ne a1]
  have z0' : zadd g e k v1 v2 v3 v4 0 = e + 1 := zup_eq
  have z7 : zadd g e k v1 v2 v3 v4 (7 + e) = k := by unfold zadd; rw [zup_ne (by omega), zup_ne (by omega), zup_ne (by omega), zup_ne (by omega), zup_ne (by omega), zup_eq]
  have z13 : zadd g e k v1 v2 v3 v4 (13 + e) = v1 := by unfold zadd; rw [zup_ne (by omega), zup_ne (by omega), zup_ne (by omega), zup_ne (by omega), zup_eq]
  have z19 : zadd g e k v1 v2 v3 v4 (19 + e) = v2 := by unfold zadd; rw [zup_ne (by omega), zup_ne (by omega), zup_ne (by omega), zup_eq]
  have z25 : zadd g e k v1 v2 v3 v4 (25 + e) = v3 := by unfold zadd; rw [zup_ne (by omega), zup_ne (by omega), zup_eq]
  have z31 : zadd g e k v1 v2 v3 v4 (31 + e) = v4 := by unfold zadd; rw [zup_ne (by omega), zup_eq]
  refine ⟨fun j hj => ?_, fun f x hf5 hx => ?_⟩
  · by_cases z : j = 0
    · subst z; rw [z0']; exact h0
    · rw [n j z (by omega) (by omega) (by omega) (by omega) (by omega), hf j (by omega) z (by omega) (by omega) (by omega) (by omega) (by omega)]
      exact hb.1 j hj
  · rw [z0'] at hx
    by_cases z : x = e
    · subst z
      rcases (by omega : f = 0 ∨ f = 1 ∨ f = 2 ∨ f = 3 ∨ f = 4) with y | y | y | y | y <;> subst y
      · rw [show 7 + 6 * 0 + x = 7 + x by omega, z7]; exact h7
      · rw [show 7 + 6 * 1 + x = 13 + x by omega, z13]; exact h13
      · rw [show 7 + 6 * 2 + x = 19 + x by omega, z19]; exact h19
      · rw [show 7 + 6 * 3 + x = 25 + x by omega, z25]; exact h25
      · rw [show 7 + 6 * 4 + x = 31 + x by omega, z31]; exact h31
    · rw [n _ (by omega) (by omega) (by omega) (by omega) (by omega) (by omega), hf _ (by omega) (by omega) (by omega) (by omega) (by omega) (by omega) (by omega)]
      exact hb.2 f x hf5 (by omega)
theorem zadd_wf {e k v1 v2 v3 v4 : Nat} {g : zH} (wf : zWF g) (hg : g 0 = e) (he : e < 6) (hk : 1 ≤ k ∧ k ≤ 5) (h1 : v1 < g 1) (h2 : v2 < g 1) (h3 : 1 ≤ v3 ∧ v3 ≤ 9) (h4 : v4 ≤ 60) : zWF (zadd g e k v1 v2 v3 v4) ∧ zadd g e k v1 v2 v3 v4 0 = e + 1 := by
  have n : ∀ j, j ≠ 0 → j ≠ 7 + e → j ≠ 13 + e → j ≠ 19 + e → j ≠ 25 + e → j ≠ 31 + e → zadd g e k v1 v2 v3 v4 j = g j := fun j a0 a1 a2 a3 a4 a5 => by
    unfold zadd
    rw [zup_ne a0, zup_ne a5, zup_ne a4, zup_ne a3, zup_ne a2, zup_ne a1]
  have z0' : zadd g e k v1 v2 v3 v4 0 = e + 1 := zup_eq
  have z7 : zadd g e k v1 v2 v3 v4 (7 + e) = k := by unfold zadd; rw [zup_ne (by omega), zup_ne (by omega), zup_ne (by omega), zup_ne (by omega), zup_ne (by omega), zup_eq]
  have z13 : zadd g e k v1 v2 v3 v4 (13 + e) = v1 := by unfold zadd; rw [zup_ne (by omega), zup_ne (by omega), zup_ne (by omega), zup_ne (by omega), zup_eq]
  have z19 : zadd g e k v1 v2 v3 v4 (19 + e) = v2 := by unfold zadd; rw [zup_ne (by omega), zup_ne (by omega), zup_ne (by omega), zup_eq]
  have z25 : zadd g e k v1 v2 v3 v4 (25 + e) = v3 := by unfold zadd; rw [zup_ne (by omega), zup_ne (by omega), zup_eq]
  have z31 : zadd g e k v1 v2 v3 v4 (31 + e) = v4 := by unfold zadd; rw [zup_ne (by omega), zup_eq]
  obtain ⟨c0, c1, c2, c3, c4, c5, c6, c7, c8⟩ := wf
  have s : ∀ j, 1 ≤ j → j < 7 → zadd g e k v1 v2 v3 v4 j = g j := fun j a b => n j (by omega) (by omega) (by omega) (by omega) (by omega) (by omega)
  refine ⟨⟨by omega, by rw [s 1 (by omega) (by omega)]; exact c1, by rw [s 1 (by omega) (by omega)]; exact c2, by rw [s 2 (by omega) (by omega)]; exact c3, by rw [s 3 (by omega) (by omega)]; exact c4, by rw [s 4 (by omega) (by omega), s 1 (by omega) (by omega)]; exact c5, by rw [s 5 (by omega) (by omega)]; exact c6, by rw [s 6 (by omega) (by omega)]; exact c7, fun x hx => ?_⟩, z0'⟩
  rw [z0'] at hx
  rw [s 1 (by omega) (by omega)]
  by_cases z : x = e
  · subst z
    rw [z7, z13, z19, z25, z31]
    exact ⟨hk, Or.inl h1, h2, h3, h4⟩
  · rw [n (7 + x) (by omega) (by omega) (by omega) (by omega) (by omega) (by omega), n (13 + x) (by omega) (by omega) (by omega) (by omega) (by omega) (by omega), n (19 + x) (by omega) (by omega) (by omega) (by omega) (by omega) (by omega), n (25 + x) (by omega) (by omega) (by omega) (by omega) (by omega) (by omega), n (31 + x) (by omega) (by omega) (by omega) (by omega) (by omega) (by omega)]
    exact c8 x (by omega)
theorem zkno_le (c : Nat) : zkno c ≤ 5 := by
  unfold zkno
  split
  · omega
  · split
    · omega
    · split
      · omega
      · split
        · omega
        · split <;> omega
theorem zkn_le (b : Nat → Nat) (n p : Nat) : zkn b n p ≤ 5 := by
  unfold zkn
  split
  · exact zkno_le _
  · omega
theorem zbare_wf {a r w : Nat} (ha : 2 ≤ a ∧ a ≤ 9) (hr : 1 ≤ r ∧ r ≤ 4) (hw : 1 ≤ w ∧ w ≤ 40) : zWF (zbare a r w) := by
  refine ⟨?_, ?_, ?_, ?_, ?_, ?_, ?_, ?_, fun e he => ?_⟩
  · show 0 ≤ 6; omega
  · exact ha.1
  · exact ha.2
  · exact hr
  · exact hw
  · show 0 < a; omega
  · show 1 ≤ 1; omega
  · show 0 ≤ 2000000; omega
  · exact absurd (show e < 0 from he) (Nat.not_lt_zero e)
def zgfr (mem mem' : zMem) : Prop := ∀ x, x ≠ 532 → x ≠ 533 → x ≠ 534 → ¬ (10064 ≤ x ∧ x < 10064 + 37) → mem' x = mem x
theorem zgfr.rf {mem : zMem} : zgfr mem mem := fun _ _ _ _ _ => rfl
theorem zgfr.tr {m1 m2 m3 : zMem} (h : zgfr m1 m2) (h' : zgfr m2 m3) : zgfr m1 m3 := fun x a b c e => (h' x a b c e).trans (h x a b c e)
theorem zpfr.g {m1 m2 : zMem} (h : zpfr m1 m2) : zgfr m1 m2 := fun x a b c _ => h x a b c
theorem zgfr.up {mem : zMem} {y : Nat} {v : Int32} (h : 10064 ≤ y ∧ y < 10064 + 37) : zgfr mem (upd mem y v) := fun x _ _ _ e => upd_ne (by omega)
theorem zgfr.up2 {mem : zMem} {v : Int32} : zgfr mem (upd mem 532 v) := fun x e _ _ _ => upd_ne (by omega)
theorem zTp.g {mem mem' : zMem} {b : Nat → Nat} {n p p' : Nat} (h : zTp mem b n p) (hn : n ≤ 110) (h5 : mem' 532 = nI p') (hf : zgfr mem mem') : zTp mem' b n p' :=
  ⟨by rw [hf _ (by omega) (by omega) (by omega) (by omega)]; exact h.1, h5, fun i hi => by rw [hf _ (by omega) (by omega) (by omega) (by omega)]; exact h.2.2 i hi⟩
section TE
variable {X d : Nat} {mem : zMem} {lk : zLk} {L : List Nat} {Q : Option Value → zMem → Prop} {b : Nat → Nat} {n p : Nat} {g : zH}
theorem ok_build' {h a r w : Nat} {x y z : Int32} (ex : x = nI a) (ey : y = nI r) (ez : z = nI w) (hdd : 0 < d) (hh : zHo lk h) (q : ∀ mem', zHB mem' h (zbare a r w) → zfr mem mem' h → Q none mem') : zOk X d 41 [.ref h, .int x, .int y, .int z] mem lk L lk L Q := by
  subst ex ey ez
  exact ok_build hdd hh q
theorem ok_readLaw (hd : 3 < d) (hk : zKs lk) (ht : zHo lk 10064) (T : zTp mem b n 0) (B : zby b n)
    (qF : ∀ f p', f ≠ 0 → (∀ k, zpL b n k = (f, p', z0)) → ∀ mem', mem' 532 = nI p' → mem' 533 = nI f → zgfr mem mem' → Q (some (.int (nI 0))) mem')
    (qT : ∀ p' g', (∀ k, zpL b n k = k p' g') → zWF g' → g' 0 = 0 → p' ≤ n → ∀ mem', mem' 532 = nI p' → mem' 533 = mem 533 → zHB mem' 10064 g' → zgfr mem mem' → Q (some (.int (nI 1))) mem') : zOk X d 82 [.ref 530, .ref 10064] mem lk L lk L Q := by
  have b1 := B.1
  refine zOk_do 60 (tbl := tX6_readLaw) zck_82 rfl (by omega) (h := ?_)
  refine ⟨rfl, ok_readByte (by omega) hk T B (by omega) (by omega) (fun h1 h2 m1 a1 a2 a3 f1 => zT_eq ⟨rfl, ?_⟩) (fun h1 m1 a1 a2 a3 f1 => zF_eq ⟨rfl, rfl, rfl, qF 1 0 (by omega) (fun k => by unfold zpL zrB; rw [if_neg h1]) m1 a1 a2 f1.g⟩)⟩
  have E0 : ∀ k, zrB b n 0 100 k = k 1 := fun k => by unfold zrB; rw [if_pos ⟨h1, h2⟩]
  have T1 := T.fr b1 a1 f1
  refine ok_readNumber rfl (by omega) (by omega) (by omega) (by omega) hk T1 B (by omega) (fun f p' hf E m2 c1 c2 f2 => zF_ne ⟨rfl, rfl, rfl, qF f p' hf (fun k => by unfold zpL; rw [E0, E]) m2 c1 c2 (f1.g.tr f2.g)⟩) (fun p2 v1 E1 l1 l2 hp2 m2 c1 c2 c3 f2 => zT_ne ⟨rfl, rfl, ?_⟩)
  have T2 := T1.fr b1 c1 f2
  refine ok_readNumber rfl (by omega) (by omega) (by omega) (by omega) hk T2 B hp2 (fun f p' hf E m3 g1 g2 f3 => zF_ne ⟨rfl, rfl, rfl, qF f p' hf (fun k => by unfold zpL; rw [E0, E1, E]) m3 g1 g2 ((f1.tr f2).tr f3).g⟩) (fun p3 v2 E2 l3 l4 hp3 m3 g1 g2 g3 f3 => zT_ne ⟨rfl, rfl, ?_⟩)
  have T3 := T2.fr b1 g1 f3
  refine ok_readNumber rfl (by omega) (by omega) (by omega) (by omega) hk T3 B hp3 (fun f p' hf E m4 i1 i2 f4 => zF_ne ⟨rfl, rfl, rfl, qF f p' hf (fun k => by unfold zpL; rw [E0, E1, E2, E]) m4 i1 i2 (((f1.tr f2).tr f3).tr f4).g⟩) (fun p4 v3 E3 l5 l6 hp4 m4 i1 i2 i3 f4 => zT_ne ⟨rfl, by rw [ht.k3]; rfl, ?_⟩)
  refine ok_build' c3 g3 i3 (by omega) ht (fun m5 hb5 f5 => ⟨rfl, rfl, rfl, ?_⟩)
  have e2 : m5 532 = m4 532 := f5 _ (by omega)
  have e3 : m5 533 = m4 533 := f5 _ (by omega)
  exact qT p4 (zbare v1 v2 v3) (fun k => by unfold zpL; rw [E0, E1, E2, E3]) (zbare_wf ⟨l1, l2⟩ ⟨l3, l4⟩ ⟨l5, l6⟩) rfl hp4 m5 (e2.trans i1) (by rw [e3, i2, g2, c2, a2]) hb5 (fun x y1 y2 y3 y4 => by rw [f5 x y4, f4 x y1 y2 y3, f3 x y1 y2 y3, f2 x y1 y2 y3, f1 x y1 y2 y3])
end TE
