/-! a call of both: the same answer, and what holds holds again -/
def zAg (X y : Nat) (as : List Value) (v : Value) (lk : zLk) (L : List Nat) (I : zMem → Prop) (mem1 : zMem) : Prop := ∀ (d' : Nat) (Q' : Option Value → zMem → Prop), 40 < d' → (∀ mem2, I mem2 → Q' (some v) mem2) → zOk X d' y as mem1 lk L lk L Q'
def zStp (X y y' : Nat) (as as' : List Value) (lk : zLk) (L : List Nat) (lk' : zLk) (L' : List Nat) (I I' : zMem → Prop) : Prop := ∀ mem (d : Nat) (Q : Option Value → zMem → Prop), I mem → 40 < d → (∀ (w : Int32) mem1, zAg X y' as' (.int w) lk' L' I' mem1 → Q (some (.int w)) mem1) → zOk X d y as mem lk L lk' L' Q
theorem nTx {x : Int32} {a : Nat} (e : x = nI a) (h : a < 2147483648) : x.toInt = (a : Int) := by rw [e, nT h]
theorem nJ {x : Int32} {a b : Nat} (e1 : x = nI a) (e2 : x = nI b) (h1 : a < 2147483648) (h2 : b < 2147483648) : a = b := by
  have := nTx e1 h1
  have := nTx e2 h2
  omega
section ST
variable {X : Nat} {xs : Nat → Int32} {nx u : Nat} {g : zH} {gs : Nat → zH} {im : Nat → Option zH} {b : Nat → Nat} {t : Nat} {mem : zMem} {lk : zLk} {L : List Nat}
theorem zInv.h (h : zInv X xs nx u g gs im b t mem lk L) (i : Nat) (hi : i < 5) : zHo lk (10000 + 64 * i) := h.2.1.2.1 i hi
theorem zInv.n (h : zInv X xs nx u g gs im b t mem lk L) : zNow g := h.1.1
theorem zInv.hb (h : zInv X xs nx u g gs im b t mem lk L) : zHB mem 10000 g := h.2.1.2.2.1
theorem zInv.ks (h : zInv X xs nx u g gs im b t mem lk L) : zKs lk := h.2.1.1
theorem zInv.ml (h : zInv X xs nx u g gs im b t mem lk L) : zML lk := h.2.2.1.1
theorem zInv.rw (h : zInv X xs nx u g gs im b t mem lk L) : zRw mem 0 g := h.2.2.1.2.1
theorem zInv.st (h : zInv X xs nx u g gs im b t mem lk L) : zSt mem := h.2.2.2.2.2.1
theorem zInv.rs (h : zInv X xs nx u g gs im b t mem lk L) : zIr mem := h.2.2.2.1
theorem zInv.tr (h : zInv X xs nx u g gs im b t mem lk L) (hX : X ≤ 3072) {mem' : zMem} (hf : zfr mem mem' 10128) : zInv X xs nx u g gs im b t mem' lk L := h.sc2 hX (fun x hx => hf x (by unfold zscr at hx; omega))
theorem zInv.tm (h : zInv X xs nx u g gs im b t mem lk L) (hX : X ≤ 3072) {mem' : zMem} (hf : ztfr mem mem') : zInv X xs nx u g gs im b t mem' lk L := h.sc2 hX (fun x hx => hf x (by unfold zscr at hx; omega))
theorem st_fault : zStp X 97 156 [.ref 100] [.ref 1000] lk L lk L (fun m => zInv X xs nx u g gs im b t m lk L) (fun m => zInv X xs nx u g gs im b t m lk L) := fun mem d Q I hd K => by
  refine ok_fault (by omega) I.ks (K _ mem (fun d' Q' hd' q' => ok_mfault (by omega) ?_))
  rw [← I.rs.2.2.1]
  exact q' mem I
theorem st_status : zStp X 127 220 [.ref 100] [.ref 1000] lk L lk L (fun m => zInv X xs nx u g gs im b t m lk L) (fun m => zInv X xs nx u g gs im b t m lk L) := fun mem d Q I hd K => by
  refine ok_status (by omega) (K _ mem (fun d' Q' hd' q' => ok_mstatus (by omega) ?_))
  rw [← I.rs.2.1]
  exact q' mem I
theorem st_trace {x : Int32} : zStp X 125 216 [.ref 100, .int x] [.ref 1000, .int x] lk L lk L (fun m => zInv X xs nx u g gs im b t m lk L) (fun m => zInv X xs nx u g gs im b t m lk L) := fun mem d Q I hd K => by
  obtain ⟨l, h1, h2⟩ := I.rs.2.2.2
  refine ok_trace (by omega) I.ks h1.1 (by omega) (fun c => K _ mem (fun d' Q' hd' q' => ok_mtrace (by omega) I.ml h2.1 (by omega) (fun _ => q' mem I) (fun i hi ex => ?_))) (fun i hi ex => K _ mem (fun d' Q' hd' q' => ok_mtrace (by omega) I.ml h2.1 (by omega) (fun c => ?_) (fun i' hi' ex' => ?_)))
  · have := nTx ex (by omega)
    omega
  · have := nTx ex (by omega)
    omega
  · have := nJ ex ex' (by omega) (by omega)
    subst this
    rw [h2.2 i (by omega) (by omega), ← h1.2 i (by omega) (by omega)]
    exact q' mem I
theorem st_kind {x : Int32} : zStp X 122 203 [.ref 100, .int x] [.ref 1000, .int x] lk L lk L (fun m => zInv X xs nx u g gs im b t m lk L) (fun m => zInv X xs nx u g gs im b t m lk L) := fun mem d Q I hd K => by
  have w0 := I.n.le.1
  refine ok_kind (by omega) I.ks (I.h 0 (by omega)) I.hb I.n (fun c => K _ mem (fun d' Q' hd' q' => ok_mkind (by omega) I.ml I.rw.1 I.n (fun _ => q' mem I) (fun e he ex => ?_))) (fun e he ex => K _ mem (fun d' Q' hd' q' => ok_mkind (by omega) I.ml I.rw.1 I.n (fun c => ?_) (fun e' he' ex' => ?_)))
  · have := nTx ex (by omega)
    omega
  · have := nTx ex (by omega)
    omega
  · have := nJ ex ex' (by omega) (by omega)
    subst this
    exact q' mem I
theorem st_dish {x w : Int32} : zStp X 104 178 [.ref 100, .int x, .int w] [.ref 1000, .int x, .int w] lk L lk L (fun m => zInv X xs nx u g gs im b t m lk L) (fun m => zInv X xs nx u g gs im b t m lk L) := fun mem d Q I hd K => by
  have w0 := I.n.le.1
  refine ok_dish (by omega) I.ks (I.h 0 (by omega)) I.hb I.n I.st (fun c => K _ mem (fun d' Q' hd' q' => ok_mdish (by omega) I.ml I.rw.1 I.n (fun _ => q' mem I) (fun e he ex => ?_))) (fun e he ex => K _ mem (fun d' Q' hd' q' => ok_mdish (by omega) I.ml I.rw.1 I.n (fun c => ?_) (fun e' he' ex' => ?_)))
  · have := nTx ex (by omega)
    omega
  · have := nTx ex (by omega)
    omega
  · have := nJ ex ex' (by omega) (by omega)
    subst this
    exact q' mem I
theorem st_car {w : Int32} : zStp X 105 179 [.ref 100, .int w] [.ref 1000, .int w] lk L lk L (fun m => zInv X xs nx u g gs im b t m lk L) (fun m => zInv X xs nx u g gs im b t m lk L) := fun mem d Q I hd K =>
  ok_car (by omega) I.ks (I.h 0 (by omega)) I.hb I.n (fun c => K _ mem (fun d' Q' hd' q' => ok_mcar (by omega) I.ml I.rw.1 I.n (fun _ => q' mem I) (fun c2 => by omega))) (fun c => K _ mem (fun d' Q' hd' q' => ok_mcar (by omega) I.ml I.rw.1 I.n (fun c2 => by omega) (fun _ => q' mem I)))
theorem st_holds {w : Int32} : zStp X 114 193 [.ref 100, .int w] [.ref 1000, .int w] lk L lk L (fun m => zInv X xs nx u g gs im b t m lk L) (fun m => zInv X xs nx u g gs im b t m lk L) := fun mem d Q I hd K =>
  ok_holds (by omega) I.ks (I.h 0 (by omega)) I.hb I.n (fun c => K _ mem (fun d' Q' hd' q' => ok_mholds (by omega) I.ml I.rw.1 I.n (fun _ => q' mem I) (fun c2 => by omega))) (fun c => K _ mem (fun d' Q' hd' q' => ok_mholds (by omega) I.ml I.rw.1 I.n (fun c2 => by omega) (fun _ => q' mem I)))
theorem st_share {x y : Int32} : zStp X 115 194 [.ref 100, .int x, .int y] [.ref 1000, .int x, .int y] lk L lk L (fun m => zInv X xs nx u g gs im b t m lk L) (fun m => zInv X xs nx u g gs im b t m lk L) := fun mem d Q I hd K => by
  have w0 := I.n.le.1
  refine ok_share (by omega) I.ks (I.h 0 (by omega)) I.hb I.n (fun c => K _ mem (fun d' Q' hd' q' => ok_mshare (by omega) I.ml I.rw.1 I.n (fun _ => q' mem I) (fun e n he ex ey hn => ?_))) (fun e n he ex ey hn => K _ mem (fun d' Q' hd' q' => ok_mshare (by omega) I.ml I.rw.1 I.n (fun c => ?_) (fun e' n' he' ex' ey' hn' => ?_)))
  · have := nTx ex (by omega)
    have := nTx ey (by omega)
    omega
  · have := nTx ex (by omega)
    have := nTx ey (by omega)
    omega
  · have h1 := nJ ex ex' (by omega) (by omega)
    have h2 := nJ ey ey' (by omega) (by omega)
    subst h1 h2
    exact q' mem I
theorem st_count {w : Int32} : zStp X 126 219 [.ref 100, .int w] [.ref 1000, .int w] lk L lk L (fun m => zInv X xs nx u g gs im b t m lk L) (fun m => zInv X xs nx u g gs im b t m lk L) := fun mem d Q I hd K => by
  obtain ⟨rl, rn, ri, h1, h2, h3⟩ := I.rs.1
  exact ok_count (by omega) I.ks (I.h 0 (by omega)) I.hb I.n h1 h3 I.2.1.2.2.2.1.2.2.2.1 I.2.1.2.2.2.2.2.2.1 (K _ mem (fun d' Q' hd' q' => ok_mcount (by omega) I.ml I.rw.1 I.n h2 h3 I.2.2.1.2.2.1.2.1 I.2.2.1.2.2.2.2.1 (q' mem I)))
theorem st_later {x : Int32} (hX : X ≤ 3072) : zStp X 107 183 [.ref 100, .int x] [.ref 1000, .int x] lk L lk L (fun m => zInv X xs nx u g gs im b t m lk L) (fun m => zInv X xs nx u g gs im b t m lk L) := fun mem d Q I hd K => by
  refine ok_later (by omega) I.ks (I.h 2 (by omega)) (I.h 0 (by omega)) I.hb I.n I.st (fun c => K _ mem (fun d' Q' hd' q' => ok_mlater (by omega) I.ml.1 I.rw I.n (fun _ => q' mem I) (fun _ _ => by omega) (fun n c2 => by omega))) (fun h0 c => K _ mem (fun d' Q' hd' q' => ok_mlater (by omega) I.ml.1 I.rw I.n (fun _ => by omega) (fun _ _ => q' mem I) (fun n _ ex hn => ?_))) (fun n h0 ex hn m1 f1 => K _ m1 (fun d' Q' hd' q' => ok_mlater (by omega) I.ml.1 (I.tr hX f1).rw I.n (fun _ => by omega) (fun _ c => ?_) (fun n' _ ex' hn' m2 f2 => ?_)))
  · have := nTx ex (by omega)
    omega
  · have := nTx ex (by omega)
    omega
  · have := nJ ex ex' (by omega) (by omega)
    subst this
    exact q' m2 ((I.tr hX f1).tm hX f2)
theorem st_fine {x : Int32} (hX : X ≤ 3072) : zStp X 110 187 [.ref 100, .int x] [.ref 1000, .int x] lk L lk L (fun m => zInv X xs nx u g gs im b t m lk L) (fun m => zInv X xs nx u g gs im b t m lk L) := fun mem d Q I hd K => by
  refine ok_fine (by omega) I.ks (I.h 2 (by omega)) (I.h 0 (by omega)) I.hb I.n I.st (fun c => K _ mem (fun d' Q' hd' q' => ok_mfine (by omega) I.ml.1 I.rw I.n (fun _ => q' mem I) (fun _ _ => by omega) (fun n c2 => by omega))) (fun h0 c => K _ mem (fun d' Q' hd' q' => ok_mfine (by omega) I.ml.1 I.rw I.n (fun _ => by omega) (fun _ _ => q' mem I) (fun n _ ex hn => ?_))) (fun n h0 ex hn m1 f1 => K _ m1 (fun d' Q' hd' q' => ok_mfine (by omega) I.ml.1 (I.tr hX f1).rw I.n (fun _ => by omega) (fun _ c => ?_) (fun n' _ ex' hn' m2 f2 => ?_)))
  · have := nTx ex (by omega)
    omega
  · have := nTx ex (by omega)
    omega
  · have := nJ ex ex' (by omega) (by omega)
    subst this
    exact q' m2 ((I.tr hX f1).tm hX f2)
theorem st_ahead {x y z : Int32} (hX : X ≤ 3072) : zStp X 106 182 [.ref 100, .int x, .int y, .int z] [.ref 1000, .int x, .int y, .int z] lk L lk L (fun m => zInv X xs nx u g gs im b t m lk L) (fun m => zInv X xs nx u g gs im b t m lk L) := fun mem d Q I hd K => by
  have w0 := I.n.le.1
  refine ok_ahead (by omega) I.ks (I.h 2 (by omega)) (I.h 0 (by omega)) I.hb I.n I.st (fun c => K _ mem (fun d' Q' hd' q' => ok_mahead (by omega) I.ml.1 I.rw I.n (fun _ => q' mem I) (fun e n w a1 a2 a3 a4 a5 a6 => ?_))) (fun e n w a1 a2 a3 a4 a5 a6 m1 f1 => K _ m1 (fun d' Q' hd' q' => ok_mahead (by omega) I.ml.1 (I.tr hX f1).rw I.n (fun c => ?_) (fun e' n' w' b1 b2 b3 b4 b5 b6 m2 f2 => ?_)))
  · have := nTx a2 (by omega)
    have := nTx a3 (by omega)
    have := nTx a5 (by omega)
    omega
  · have := nTx a2 (by omega)
    have := nTx a3 (by omega)
    have := nTx a5 (by omega)
    omega
  · have h1 := nJ a2 b2 (by omega) (by omega)
    have h2 := nJ a3 b3 (by omega) (by omega)
    have h3 := nJ a5 b5 (by omega) (by omega)
    subst h1 h2 h3
    exact q' m2 ((I.tr hX f1).tm hX f2)
theorem st_when {x : Int32} (hX : X ≤ 3072) : zStp X 108 185 [.ref 100, .int x] [.ref 1000, .int x] lk L lk L (fun m => zInv X xs nx u g gs im b t m lk L) (fun m => zInv X xs nx u g gs im b t m lk L) := fun mem d Q I hd K => by
  have w0 := I.n.le.1
  refine ok_when (by omega) I.ks (I.h 2 (by omega)) (I.h 0 (by omega)) I.hb I.n I.st (fun c => K _ mem (fun d' Q' hd' q' => ok_mwhen (by omega) I.ml.1 I.rw I.n (fun _ => q' mem I) (fun e a1 a2 => ?_))) (fun e a1 a2 m1 f1 => K _ m1 (fun d' Q' hd' q' => ok_mwhen (by omega) I.ml.1 (I.tr hX f1).rw I.n (fun c => ?_) (fun e' b1 b2 m2 f2 => ?_)))
  · have := nTx a2 (by omega)
    omega
  · have := nTx a2 (by omega)
    omega
  · have h1 := nJ a2 b2 (by omega) (by omega)
    subst h1
    exact q' m2 ((I.tr hX f1).tm hX f2)
theorem st_done (hX : X ≤ 3072) : zStp X 109 186 [.ref 100] [.ref 1000] lk L lk L (fun m => zInv X xs nx u g gs im b t m lk L) (fun m => zInv X xs nx u g gs im b t m lk L) := fun mem d Q I hd K =>
  ok_done (by omega) I.ks (I.h 2 (by omega)) (I.h 0 (by omega)) I.hb I.n I.st (fun c => K _ mem (fun d' Q' hd' q' => ok_mdone (by omega) I.ml.1 I.rw I.n (fun _ => q' mem I) (fun c2 => by omega))) (fun c m1 f1 => K _ m1 (fun d' Q' hd' q' => ok_mdone (by omega) I.ml.1 (I.tr hX f1).rw I.n (fun c2 => by omega) (fun _ m2 f2 => q' m2 ((I.tr hX f1).tm hX f2))))
theorem st_site {x y : Int32} (hX : X ≤ 3072) : zStp X 111 188 [.ref 100, .int x, .int y] [.ref 1000, .int x, .int y] lk L lk L (fun m => zInv X xs nx u g gs im b t m lk L) (fun m => zInv X xs nx u g gs im b t m lk L) := fun mem d Q I hd K => by
  refine ok_site (by omega) I.ks (I.h 2 (by omega)) (I.h 0 (by omega)) I.hb I.n I.st (fun c => K _ mem (fun d' Q' hd' q' => ok_msite (by omega) I.ml.1 I.rw I.n (fun _ => q' mem I) (fun _ _ => by omega) (fun n w c2 => by omega))) (fun h0 c => K _ mem (fun d' Q' hd' q' => ok_msite (by omega) I.ml.1 I.rw I.n (fun _ => by omega) (fun _ _ => q' mem I) (fun n w _ ex hn ey hw => ?_))) (fun n w h0 ex hn ey hw m1 f1 => K _ m1 (fun d' Q' hd' q' => ok_msite (by omega) I.ml.1 (I.tr hX f1).rw I.n (fun _ => by omega) (fun _ c => ?_) (fun n' w' _ ex' hn' ey' hw' m2 f2 => ?_)))
  · have := nTx ex (by omega)
    have := nTx ey (by omega)
    omega
  · have := nTx ex (by omega)
    have := nTx ey (by omega)
    omega
  · have h1 := nJ ex ex' (by omega) (by omega)
    have h2 := nJ ey ey' (by omega) (by omega)
    subst h1 h2
    exact q' m2 ((I.tr hX f1).tm hX f2)
theorem st_need {x y : Int32} (hX : X ≤ 3072) : zStp X 112 189 [.ref 100, .int x, .int y] [.ref 1000, .int x, .int y] lk L lk L (fun m => zInv X xs nx u g gs im b t m lk L) (fun m => zInv X xs nx u g gs im b t m lk L) := fun mem d Q I hd K => by
  refine ok_need (by omega) I.ks (I.h 2 (by omega)) (I.h 0 (by omega)) I.hb I.n I.st (fun c => K _ mem (fun d' Q' hd' q' => ok_mneed (by omega) I.ml.1 I.rw I.n (fun _ => q' mem I) (fun _ _ => by omega) (fun n w c2 => by omega))) (fun h0 c => K _ mem (fun d' Q' hd' q' => ok_mneed (by omega) I.ml.1 I.rw I.n (fun _ => by omega) (fun _ _ => q' mem I) (fun n w _ ex hn ey hw => ?_))) (fun n w h0 ex hn ey hw m1 f1 => K _ m1 (fun d' Q' hd' q' => ok_mneed (by omega) I.ml.1 (I.tr hX f1).rw I.n (fun _ => by omega) (fun _ c => ?_) (fun n' w' _ ex' hn' ey' hw' m2 f2 => ?_)))
  · have := nTx ex (by omega)
    have := nTx ey (by omega)
    omega
  · have := nTx ex (by omega)
    have := nTx ey (by omega)
    omega
  · have h1 := nJ ex ex' (by omega) (by omega)
    have h2 := nJ ey ey' (by omega) (by omega)
    subst h1 h2
    exact q' m2 ((I.tr hX f1).tm hX f2)
theorem st_byTurns {x y : Int32} (hX : X ≤ 3072) : zStp X 116 196 [.ref 100, .int x, .int y] [.ref 1000, .int x, .int y] lk L lk L (fun m => zInv X xs nx u g gs im b t m lk L) (fun m => zInv X xs nx u g gs im b t m lk L) := fun mem d Q I hd K => by
  refine ok_byTurns (by omega) I.ks (I.h 2 (by omega)) (I.h 0 (by omega)) I.hb I.n I.st (fun c => K _ mem (fun d' Q' hd' q' => ok_mbyTurns (by omega) I.ml I.rw I.n (fun _ => q' mem I) (fun _ _ => by omega) (fun n w c2 => by omega))) (fun h0 c => K _ mem (fun d' Q' hd' q' => ok_mbyTurns (by omega) I.ml I.rw I.n (fun _ => by omega) (fun _ _ => q' mem I) (fun n w _ ex hn ey hw => ?_))) (fun n w h0 ex hn ey hw m1 f1 => K _ m1 (fun d' Q' hd' q' => ok_mbyTurns (by omega) I.ml (I.tr hX f1).rw I.n (fun _ => by omega) (fun _ c => ?_) (fun n' w' _ ex' hn' ey' hw' m2 f2 => ?_)))
  · have := nTx ex (by omega)
    have := nTx ey (by omega)
    omega
  · have := nTx ex (by omega)
    have := nTx ey (by omega)
    omega
  · have h1 := nJ ex ex' (by omega) (by omega)
    have h2 := nJ ey ey' (by omega) (by omega)
    subst h1 h2
    exact q' m2 ((I.tr hX f1).sc2 hX (fun x hx => f2 x (by unfold zscr at hx; omega) (by unfold zscr at hx; omega)))
theorem st_drawn {x y z : Int32} (hX : X ≤ 3072) : zStp X 119 200 [.ref 100, .int x, .int y, .int z] [.ref 1000, .int x, .int y, .int z] lk L lk L (fun m => zInv X xs nx u g gs im b t m lk L) (fun m => zInv X xs nx u g gs im b t m lk L) := fun mem d Q I hd K => by
  refine ok_drawn (by omega) I.ks (I.h 2 (by omega)) (I.h 0 (by omega)) I.hb I.n I.st (fun c => K _ mem (fun d' Q' hd' q' => ok_mdrawn (by omega) I.ml I.rw I.n (fun _ => q' mem I) (fun _ _ => by omega) (fun n s w c2 => by omega))) (fun h0 c => K _ mem (fun d' Q' hd' q' => ok_mdrawn (by omega) I.ml I.rw I.n (fun _ => by omega) (fun _ _ => q' mem I) (fun n s w _ ex hn ey hs ez hw => ?_))) (fun n s w h0 ex hn ey hs ez hw m1 f1 => K _ m1 (fun d' Q' hd' q' => ok_mdrawn (by omega) I.ml (I.tr hX f1).rw I.n (fun _ => by omega) (fun _ c => ?_) (fun n' s' w' _ ex' hn' ey' hs' ez' hw' m2 f2 => ?_)))
  · have := nTx ex (by omega)
    have := nTx ey (by omega)
    have := nTx ez (by omega)
    omega
  · have := nTx ex (by omega)
    have := nTx ey (by omega)
    have := nTx ez (by omega)
    omega
  · have h1 := nJ ex ex' (by omega) (by omega)
    have h2 := nJ ey ey' (by omega) (by omega)
    have h3 := nJ ez ez' (by omega) (by omega)
    subst h1 h2 h3
    exact q' m2 ((I.tr hX f1).tm hX f2)
end ST
