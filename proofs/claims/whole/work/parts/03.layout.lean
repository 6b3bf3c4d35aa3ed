/-! THE LOGICAL MEMORY. An id is its own flat base address; kd: its kind (0..8 an object of the class of that number in vwCl, 9 int[], 10 boolean[], 11 House[], 12 int[][], 13 an int[] that is only read). -/
/-- a row of a method's code: pc, instruction, its length, head of a loop (1), three numbers, pairs -/
abbrev zR : Type := Nat × Instr × Nat × Nat × Nat × Nat × Nat × List (Nat × Nat)
/-- a method: name, code, locals, answer, rows, [mode (0 instance, 1 static, 2 init), makes (1), parameters, places of its words: code, instance or static, selects, initialized; the number of its type among the worlds' and among all] -/
abbrev zMt : Type := MethodName × ByteArray × Nat × Option FieldType × List zR × List Nat
/-- the static ids: id, kind, length -/
def zZ : List (Nat × Nat × Nat) := [(100, 7, 10), (120, 5, 3), (130, 9, 8), (140, 9, 8), (150, 12, 8),
  (200, 9, 40), (240, 9, 40), (280, 9, 40), (320, 9, 40), (360, 9, 40), (400, 9, 40), (440, 9, 40), (480, 9, 40),
  (530, 6, 5), (540, 9, 110), (660, 0, 3), (670, 11, 24), (700, 11, 2), (710, 2, 2), (720, 11, 9), (740, 4, 6), (750, 9, 6), (760, 9, 6), (770, 1, 2), (780, 9, 16),
  (1000, 8, 19), (2000, 9, 1247), (3300, 9, 110), (3420, 9, 8), (3430, 9, 8), (3440, 9, 320), (3760, 9, 40), (3800, 9, 7), (3810, 9, 6), (3820, 9, 45), (3870, 10, 2), (3880, 9, 16),
  (4000, 13, 6), (4010, 13, 6), (4020, 13, 6), (4030, 13, 6), (5000, 13, 3072)]
def zfind : List (Nat × Nat × Nat) → Nat → Option (Nat × Nat)
  | [], _ => none
  | (i, k, n) :: l, x => bif Nat.beq i x then some (k, n) else zfind l x
/-- the kind of an id (99: none) -/
def kd (x : Nat) : Nat := bif Nat.blt x 10000 then (match zfind zZ x with | some (k, _) => k | none => 99) else
  (bif Nat.beq ((x - 10000) % 64) 0 then 3 else bif Nat.beq ((x - 10000) % 64) 7 || Nat.beq ((x - 10000) % 64) 13 || Nat.beq ((x - 10000) % 64) 19 || Nat.beq ((x - 10000) % 64) 25 || Nat.beq ((x - 10000) % 64) 31 then 9 else 99)
/-- the length of an array's id; X: the script's -/
def ln (X x : Nat) : Nat := bif Nat.blt x 10000 then (bif Nat.beq x 5000 then X else match zfind zZ x with | some (_, n) => n | none => 0) else 6
/-- the owner of a flat address -/
def zmoS : List (Nat × Nat × Nat) → Nat → Nat
  | [], _ => 0
  | (i, k, n) :: l, x => bif Nat.ble i x && Nat.blt x (i + n) then i else zmoS l x
def mo (x : Nat) : Nat := bif Nat.blt x 10000 then zmoS zZ x else
  (bif Nat.blt ((x - 10000) % 64) 7 || Nat.ble 37 ((x - 10000) % 64) then x - (x - 10000) % 64 else x - (x - 10000) % 64 + 7 + ((x - 10000) % 64 - 7) / 6 * 6)
/-- the offset of a field, and whether it is a number -/
def zoff (c k : Nat) : Nat := bif Nat.beq c 3 then ([1, 2, 3, 6, 4, 5, 0, 40, 41, 42, 43, 44].getD k 0) else k
def zisI (c k : Nat) : Bool := match c with
  | 0 => Nat.ble 1 k
  | 1 => Nat.beq k 1
  | 2 => false
  | 3 => Nat.blt k 7
  | 4 => Nat.ble 4 k
  | 5 => false
  | 6 => Nat.ble 1 k
  | 7 => Nat.beq k 9
  | 8 => !(Nat.beq k 0 || Nat.beq k 2 || Nat.beq k 6 || Nat.beq k 7 || Nat.beq k 8 || Nat.beq k 9 || Nat.beq k 13 || Nat.beq k 14 || Nat.beq k 15 || Nat.beq k 16 || Nat.beq k 17)
  | _ => false
/-- how many fields -/
def znf (c : Nat) : Nat := [3, 2, 2, 12, 6, 3, 5, 10, 19].getD c 0
/-- the type of an array's parts, by its kind -/
def zaty (k : Nat) : Option FieldType := match k with
  | 9 => some .int
  | 10 => some .boolean
  | 11 => some (.object "DishLift$House")
  | 12 => some (.array .int)
  | _ => none
/-- which words an id of a kind has -/
def zhas (X o j : Nat) : Prop := (kd o < 9 ∧ ∃ k, k < znf (kd o) ∧ j = zoff (kd o) k) ∨ (9 ≤ kd o ∧ kd o ≤ 13 ∧ j < ln X o)
theorem kd_house (i : Nat) : kd (10000 + 64 * i) = 3 := by
  unfold kd
  have h1 : Nat.blt (10000 + 64 * i) 10000 = false := by rw [Bool.eq_false_iff, ne_eq, Nat.blt_eq]; omega
  have h2 : (10000 + 64 * i - 10000) % 64 = 0 := by omega
  rw [h1, h2]; rfl
theorem kd_harr (i j : Nat) (hj : j < 5) : kd (10000 + 64 * i + (7 + 6 * j)) = 9 := by
  unfold kd
  have h1 : Nat.blt (10000 + 64 * i + (7 + 6 * j)) 10000 = false := by rw [Bool.eq_false_iff, ne_eq, Nat.blt_eq]; omega
  have h2 : (10000 + 64 * i + (7 + 6 * j) - 10000) % 64 = 7 + 6 * j := by omega
  rw [h1, h2]
  rcases (show j = 0 ∨ j = 1 ∨ j = 2 ∨ j = 3 ∨ j = 4 by omega) with rfl | rfl | rfl | rfl | rfl <;> rfl
theorem ln_house (X x : Nat) (h : 10000 ≤ x) : ln X x = 6 := by
  unfold ln
  have h1 : Nat.blt x 10000 = false := by rw [Bool.eq_false_iff, ne_eq, Nat.blt_eq]; omega
  rw [h1]; rfl
theorem kd_ge {x : Nat} (h : 10000 ≤ x) : (kd x = 3 ∧ (x - 10000) % 64 = 0) ∨ (kd x = 9 ∧ ∃ j, j < 5 ∧ (x - 10000) % 64 = 7 + 6 * j) ∨ kd x = 99 := by
  unfold kd
  have h1 : Nat.blt x 10000 = false := by rw [Bool.eq_false_iff, ne_eq, Nat.blt_eq]; omega
  rw [h1]
  generalize (x - 10000) % 64 = r
  by_cases e0 : r = 0
  · subst e0; exact Or.inl ⟨rfl, rfl⟩
  · by_cases e1 : r = 7
    · subst e1; exact Or.inr (Or.inl ⟨rfl, 0, by omega, rfl⟩)
    · by_cases e2 : r = 13
      · subst e2; exact Or.inr (Or.inl ⟨rfl, 1, by omega, rfl⟩)
      · by_cases e3 : r = 19
        · subst e3; exact Or.inr (Or.inl ⟨rfl, 2, by omega, rfl⟩)
        · by_cases e4 : r = 25
          · subst e4; exact Or.inr (Or.inl ⟨rfl, 3, by omega, rfl⟩)
          · by_cases e5 : r = 31
            · subst e5; exact Or.inr (Or.inl ⟨rfl, 4, by omega, rfl⟩)
            · refine Or.inr (Or.inr ?_)
              have f : ∀ n : Nat, r ≠ n → Nat.beq r n = false := fun n hn => by
                rw [Bool.eq_false_iff, ne_eq, Nat.beq_eq]; exact hn
              rw [f 0 e0, f 7 e1, f 13 e2, f 19 e3, f 25 e4, f 31 e5]; rfl
theorem kd_lt {x : Nat} (h : x < 10000) : kd x = 99 ∨ ∃ k n, zfind zZ x = some (k, n) ∧ kd x = k ∧ (x, k, n) ∈ zZ := by
  have h1 : Nat.blt x 10000 = true := by rw [Nat.blt_eq]; exact h
  have g : ∀ l : List (Nat × Nat × Nat), zfind l x = none ∨ ∃ k n, zfind l x = some (k, n) ∧ (x, k, n) ∈ l := by
    intro l
    induction l with
    | nil => exact Or.inl rfl
    | cons q l ih =>
      obtain ⟨i, k, n⟩ := q
      by_cases e : i = x
      · subst e
        refine Or.inr ⟨k, n, ?_, List.mem_cons_self⟩
        show (bif Nat.beq i i then some (k, n) else zfind l i) = _
        rw [show Nat.beq i i = true from by rw [Nat.beq_eq]]; rfl
      · have e' : Nat.beq i x = false := by rw [Bool.eq_false_iff, ne_eq, Nat.beq_eq]; exact e
        have hz : zfind ((i, k, n) :: l) x = zfind l x := by
          show (bif Nat.beq i x then some (k, n) else zfind l x) = _
          rw [e']; rfl
        rw [hz]
        rcases ih with h | ⟨k', n', h1, h2⟩
        · exact Or.inl h
        · exact Or.inr ⟨k', n', h1, List.mem_cons_of_mem _ h2⟩
  rcases g zZ with h2 | ⟨k, n, h2, h3⟩
  · left; unfold kd; rw [h1, h2]; rfl
  · right; exact ⟨k, n, h2, by unfold kd; rw [h1, h2]; rfl, h3⟩
theorem zZ_mo : zZ.all (fun q => (List.range q.2.2).all (fun j => Nat.beq (mo (q.1 + j)) q.1)) = true := by decide +kernel
theorem zZ_nf : zZ.all (fun q => (Nat.ble 9 q.2.1 && Nat.ble q.2.1 13) || (Nat.blt q.2.1 9 && !(Nat.beq q.2.1 3) && Nat.beq q.2.2 (znf q.2.1))) = true := by decide +kernel
set_option maxRecDepth 100000 in
/-- every word has one owner -/
theorem mo_has {X o j : Nat} (hX : X ≤ 3072) (h : zhas X o j) : mo (o + j) = o := by
  by_cases ho : o < 10000
  · rcases kd_lt ho with h9 | ⟨k, n, hz, hk, hm⟩
    · rcases h with ⟨h1, -⟩ | ⟨-, h1, -⟩ <;> omega
    · have hmo := List.all_eq_true.mp zZ_mo _ hm
      have hnf := List.all_eq_true.mp zZ_nf _ hm
      have key : j < n → mo (o + j) = o := fun hj => by
        have := List.all_eq_true.mp hmo j (List.mem_range.mpr hj)
        exact Nat.eq_of_beq_eq_true this
      simp only [Bool.or_eq_true, Bool.and_eq_true, Nat.ble_eq, Nat.blt_eq, Bool.not_eq_true', Nat.beq_eq] at hnf
      rcases h with ⟨h1, k', hk', rfl⟩ | ⟨h1, h2, h3⟩
      · rw [hk] at h1 hk'
        rcases hnf with ⟨g1, -⟩ | ⟨⟨g1, g2⟩, g3⟩
        · omega
        · have hc3 : Nat.beq (kd o) 3 = false := by rw [hk]; exact g2
          have : zoff (kd o) k' = k' := by unfold zoff; rw [hc3]; rfl
          rw [this]; rw [this] at key; exact key (by rw [g3]; exact hk')
      · apply key
        have h1' : Nat.blt o 10000 = true := by rw [Nat.blt_eq]; exact ho
        unfold ln at h3
        rw [h1', hz] at h3
        by_cases e : o = 5000
        · subst e
          have hn : n = 3072 := by
            have : zfind zZ 5000 = some (13, 3072) := by decide +kernel
            rw [this] at hz; cases hz; rfl
          rw [hn]
          have : Nat.beq 5000 5000 = true := rfl
          rw [this] at h3
          exact Nat.lt_of_lt_of_le h3 hX
        · have e' : Nat.beq o 5000 = false := by rw [Bool.eq_false_iff, ne_eq, Nat.beq_eq]; exact e
          rw [e'] at h3
          exact h3
  · have ho' : 10000 ≤ o := by omega
    have hb : Nat.blt (o + j) 10000 = false := by rw [Bool.eq_false_iff, ne_eq, Nat.blt_eq]; omega
    rcases kd_ge ho' with ⟨hk, hm⟩ | ⟨hk, i, hi, hm⟩ | hk
    · rcases h with ⟨-, k', hk', rfl⟩ | ⟨h1, -⟩
      · rw [hk] at hk' ⊢
        have hk'' : k' < 12 := hk'
        have hoff : zoff 3 k' < 7 ∨ (37 ≤ zoff 3 k' ∧ zoff 3 k' < 64) := by
          rcases (show k' = 0 ∨ k' = 1 ∨ k' = 2 ∨ k' = 3 ∨ k' = 4 ∨ k' = 5 ∨ k' = 6 ∨ k' = 7 ∨ k' = 8 ∨ k' = 9 ∨ k' = 10 ∨ k' = 11 by omega) with rfl | rfl | rfl | rfl | rfl | rfl | rfl | rfl | rfl | rfl | rfl | rfl <;> decide
        rw [hk] at hb
        generalize zoff 3 k' = z at hoff hb ⊢
        unfold mo
        have hr : (o + z - 10000) % 64 = z := by omega
        rw [hb, hr]
        have hc : (Nat.blt z 7 || Nat.ble 37 z) = true := by
          rw [Bool.or_eq_true, Nat.blt_eq, Nat.ble_eq]
          rcases hoff with h | h
          · exact Or.inl h
          · exact Or.inr h.1
        rw [hc]
        show o + z - z = o
        omega
      · omega
    · rcases h with ⟨h1, -⟩ | ⟨-, -, h3⟩
      · omega
      · rw [ln_house X o ho'] at h3
        unfold mo
        have hr : (o + j - 10000) % 64 = 7 + 6 * i + j := by omega
        rw [hb, hr]
        have hc : (Nat.blt (7 + 6 * i + j) 7 || Nat.ble 37 (7 + 6 * i + j)) = false := by
          rw [Bool.or_eq_false_iff]
          constructor
          · rw [Bool.eq_false_iff, ne_eq, Nat.blt_eq]; omega
          · rw [Bool.eq_false_iff, ne_eq, Nat.ble_eq]; omega
        rw [hc]
        show o + j - (7 + 6 * i + j) + 7 + (7 + 6 * i + j - 7) / 6 * 6 = o
        omega
    · rcases h with ⟨h1, -⟩ | ⟨-, h1, -⟩ <;> omega
