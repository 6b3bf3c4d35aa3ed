/-! entering a method; numbers; houses -/
theorem zOk_go {X d y : Nat} {as : List Value} {mem : zMem} {lk : zLk} {L : List Nat} {lkf : zLk} {Lf : List Nat} {Q : Option Value → zMem → Prop} {tbl : List zR} (n : Nat) (hm : zmlB y = true) (hck : zchk y = true) (ht : zmT y = tbl) (hd : 0 < d) (hlen : L.length ≤ Lf.length) (hsz : (zargs as).length ≤ zmL y) {r : zR} {nxt : List zR} (hf : zfrom tbl 0 = r :: nxt)
    (h : zst X d lkf Lf Q tbl (zwp X d y lkf Lf Q tbl n) (fun a ls st mem lk L => zE X d y a ls st mem lk L lkf Lf Q) r nxt (zpad (zmL y) (zargs as)) [] mem lk L) : zOk X d y as mem lk L lkf Lf Q :=
  zOk_of (zmkB_ok (zmk_in hm)).1 (zmkB_ok (zmk_in hm)).2.1 hd hlen hsz (zgo n 0 hck ht hf h)
/-- the same for a method that makes nothing -/
theorem zOk_do {X d y : Nat} {as : List Value} {mem : zMem} {lk : zLk} {L : List Nat} {Q : Option Value → zMem → Prop} {tbl : List zR} (n : Nat) (hck : zchk y = true) (ht : zmT y = tbl) (hd : 0 < d) (hm : zmlB y = true := by rfl) (hsz : (zargs as).length ≤ zmL y := by exact Nat.le_of_ble_eq_true rfl) {r : zR} {nxt : List zR} (hf : zfrom tbl 0 = r :: nxt := by rfl)
    (h : zst X d lk L Q tbl (zwp X d y lk L Q tbl n) (fun a ls st mem' lk' L' => zE X d y a ls st mem' lk' L' lk L Q) r nxt (zpad (zmL y) (zargs as)) [] mem lk L) : zOk X d y as mem lk L lk L Q :=
  zOk_go n hm hck ht hd (Nat.le_refl _) hsz hf h
/-- a loop's head -/
theorem zE_do {X d y : Nat} {ls : List Value} {mem : zMem} {lk : zLk} {L : List Nat} {lkf : zLk} {Lf : List Nat} {Q : Option Value → zMem → Prop} {tbl : List zR} (n pc : Nat) (hck : zchk y = true) (ht : zmT y = tbl) {r : zR} {nxt : List zR} (hf : zfrom tbl pc = r :: nxt := by rfl)
    (h : zst X d lkf Lf Q tbl (zwp X d y lkf Lf Q tbl n) (fun a ls st mem lk L => zE X d y a ls st mem lk L lkf Lf Q) r nxt ls [] mem lk L) : zE X d y pc ls [] mem lk L lkf Lf Q := zgo n pc hck ht hf h
/-! answers true and false -/
theorem zT_eq {A B : Prop} (h : B) : (nI 1 = 0 → A) ∧ (¬ nI 1 = 0 → B) := ⟨fun q => absurd q (by decide), fun _ => h⟩
theorem zF_eq {A B : Prop} (h : A) : (nI 0 = 0 → A) ∧ (¬ nI 0 = 0 → B) := ⟨fun _ => h, fun q => absurd (show nI 0 = 0 from rfl) q⟩
theorem zT_ne {A B : Prop} (h : A) : (¬ nI 1 = 0 → A) ∧ (nI 1 = 0 → B) := ⟨fun _ => h, fun q => absurd q (by decide)⟩
theorem zF_ne {A B : Prop} (h : B) : (¬ nI 0 = 0 → A) ∧ (nI 0 = 0 → B) := ⟨fun q => absurd (show nI 0 = 0 from rfl) q, fun _ => h⟩
/-! numbers -/
theorem i_lt {x y : Int32} : x < y ↔ x.toInt < y.toInt := Int32.lt_iff_toInt_lt
theorem i_le {x y : Int32} : x ≤ y ↔ x.toInt ≤ y.toInt := Int32.le_iff_toInt_le
theorem i_eq {x y : Int32} : x = y ↔ x.toInt = y.toInt := Int32.toInt_inj.symm
theorem i_0 : (0 : Int32).toInt = 0 := by decide
theorem nT {n : Nat} (h : n < 2147483648) : (nI n).toInt = (n : Int) := nI_toInt h
theorem nEq {a b : Nat} (ha : a < 2147483648) (hb : b < 2147483648) : nI a = nI b ↔ a = b := nI_eq ha hb
theorem nLe {a b : Nat} (ha : a < 2147483648) (hb : b < 2147483648) : nI a ≤ nI b ↔ a ≤ b := nI_leI ha hb
theorem nLt {a b : Nat} (ha : a < 2147483648) (hb : b < 2147483648) : nI a < nI b ↔ a < b := nI_ltI ha hb
theorem nC {n : Nat} (h : n < 2147483648) : (nI n).toNatClampNeg = n := nI_clamp h
theorem n0 {n : Nat} (h : n < 2147483648) : nI n = 0 ↔ n = 0 := by
  rw [show (0 : Int32) = nI 0 from rfl]; exact nEq h (by omega)
theorem nge0 {n : Nat} (h : n < 2147483648) : ¬ nI n < 0 := nI_pos h
theorem zor_t : ∀ k, k < 9 → ∀ a, a < 512 → nI a ||| (nI 1 <<< (nI k &&& 31)) = nI (a ||| 2 ^ k) := by decide +kernel
theorem zor0 (a : Int32) : a ||| nI 0 = a := by
  rw [show nI 0 = 0 from rfl]; simp
/-- a place of an index -/
theorem zix (x : Int32) {n : Nat} (hn : n < 2147483648) : (∃ j, j < n ∧ x = nI j) ∨ (x.toInt < 0 ∨ (n : Int) ≤ x.toInt) := by
  by_cases h : 0 ≤ x.toInt ∧ x.toInt < n
  · left
    refine ⟨x.toInt.toNat, by omega, ?_⟩
    rw [i_eq, nT (by omega)]; omega
  · right; omega
/-! houses: 43 numbers; N 0, FLOORS 1, ROOM 2, ROPE 3, CAR 4, WAY 5, MINUTE 6, KIND 7, AT 13, TO 19, WEIGHT 25, HEAT 31, RANK 37 -/
abbrev zH : Type := Nat → Nat
/-- the numbers of a house stand from b on -/
def zHB (mem : zMem) (b : Nat) (g : zH) : Prop := (∀ k, k < 7 → mem (b + k) = nI (g k)) ∧ ∀ f e, f < 5 → e < g 0 → mem (b + (7 + 6 * f + e)) = nI (g (7 + 6 * f + e))
/-- a house as it can be -/
def zWF (g : zH) : Prop := g 0 ≤ 6 ∧ 2 ≤ g 1 ∧ g 1 ≤ 9 ∧ (1 ≤ g 2 ∧ g 2 ≤ 4) ∧ (1 ≤ g 3 ∧ g 3 ≤ 40) ∧ g 4 < g 1 ∧ g 5 ≤ 1 ∧ g 6 ≤ 2000000 ∧
  ∀ e, e < g 0 → (1 ≤ g (7 + e) ∧ g (7 + e) ≤ 5) ∧ (g (13 + e) < g 1 ∨ g (13 + e) = 10 ∨ g (13 + e) = 11) ∧ g (19 + e) < g 1 ∧ (1 ≤ g (25 + e) ∧ g (25 + e) ≤ 9) ∧ g (31 + e) ≤ 60
theorem zHB.k {mem : zMem} {b : Nat} {g : zH} (h : zHB mem b g) (k : Nat) (hk : k < 7) : mem (b + k) = nI (g k) := h.1 k hk
theorem zHB.kind {mem : zMem} {b e : Nat} {g : zH} (h : zHB mem b g) (he : e < g 0) : mem (b + 7 + e) = nI (g (7 + e)) := by
  have := h.2 0 e (by omega) he
  rw [show b + 7 + e = b + (7 + 6 * 0 + e) by omega, this]
theorem zHB.at {mem : zMem} {b e : Nat} {g : zH} (h : zHB mem b g) (he : e < g 0) : mem (b + 13 + e) = nI (g (13 + e)) := by
  have := h.2 1 e (by omega) he
  rw [show b + 13 + e = b + (7 + 6 * 1 + e) by omega, this]
theorem zHB.to {mem : zMem} {b e : Nat} {g : zH} (h : zHB mem b g) (he : e < g 0) : mem (b + 19 + e) = nI (g (19 + e)) := by
  have := h.2 2 e (by omega) he
  rw [show b + 19 + e = b + (7 + 6 * 2 + e) by omega, this]
theorem zHB.wt {mem : zMem} {b e : Nat} {g : zH} (h : zHB mem b g) (he : e < g 0) : mem (b + 25 + e) = nI (g (25 + e)) := by
  have := h.2 3 e (by omega) he
  rw [show b + 25 + e = b + (7 + 6 * 3 + e) by omega, this]
theorem zHB.ht {mem : zMem} {b e : Nat} {g : zH} (h : zHB mem b g) (he : e < g 0) : mem (b + 31 + e) = nI (g (31 + e)) := by
  have := h.2 4 e (by omega) he
  rw [show b + 31 + e = b + (7 + 6 * 4 + e) by omega, this]
theorem zup_eq {α : Type} {f : Nat → α} {k : Nat} {v : α} : va_up f k v k = v := if_pos rfl
theorem zup_ne {α : Type} {f : Nat → α} {k j : Nat} {v : α} (h : j ≠ k) : va_up f k v j = f j := if_neg h
theorem zHB.set {mem : zMem} {b : Nat} {g : zH} (h : zHB mem b g) (k v : Nat) (hk : 1 ≤ k) {x : Nat} (hx : x = b + k) : zHB (upd mem x (nI v)) b (va_up g k v) := by
  subst hx
  refine ⟨fun j hj => ?_, fun f e hf he => ?_⟩
  · by_cases e1 : j = k
    · subst e1; rw [upd_eq, zup_eq]
    · rw [upd_ne (by omega), zup_ne e1]; exact h.1 j hj
  · rw [zup_ne (by omega)] at he
    by_cases e1 : 7 + 6 * f + e = k
    · rw [e1, upd_eq, zup_eq]
    · rw [upd_ne (by omega), zup_ne e1]; exact h.2 f e hf he
/-- the words of a house depend on its block alone -/
theorem zHB.same {mem mem' : zMem} {b : Nat} {g : zH} (h : zHB mem b g) (hn : g 0 ≤ 6) (hs : ∀ k, k < 37 → mem' (b + k) = mem (b + k)) : zHB mem' b g :=
  ⟨fun k hk => by rw [hs k (by omega)]; exact h.1 k hk, fun f e hf he => by rw [hs _ (by omega)]; exact h.2 f e hf he⟩
/-- an object of a house -/
def zHo (lk : zLk) (h : Nat) : Prop := (∃ i, h = 10000 + 64 * i) ∧ ∀ j, j < 5 → lk (h + (40 + j)) = some (h + (7 + 6 * j))
theorem zHo.k3 {lk : zLk} {h : Nat} (hh : zHo lk h) : kd h = 3 := by
  obtain ⟨i, rfl⟩ := hh.1
  exact kd_house i
theorem zHo.ge {lk : zLk} {h : Nat} (hh : zHo lk h) : 10000 ≤ h := by
  obtain ⟨i, rfl⟩ := hh.1
  omega
theorem zHo.lk {lk : zLk} {h : Nat} (hh : zHo lk h) (j : Nat) (hj : j < 5) : lk (h + (40 + j)) = some (h + (7 + 6 * j)) := hh.2 j hj
theorem zHo.ka {lk : zLk} {h : Nat} (hh : zHo lk h) (j : Nat) (hj : j < 5) : kd (h + (7 + 6 * j)) = 9 := by
  obtain ⟨i, rfl⟩ := hh.1
  exact kd_harr i j hj
theorem zHo.inn {lk : zLk} {h : Nat} (hh : zHo lk h) {X f i : Nat} (hi : i < 6) : vp_in (nI i) (ln X (h + f)) := by
  rw [ln_house X (h + f) (by have := hh.ge; omega)]
  exact vp_in_nI hi (by decide)
