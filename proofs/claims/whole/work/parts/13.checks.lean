/-! the checks of rows, by program -/
def zcv (a b : Nat) : Int32 := match b with
  | 0 => nI a
  | _ => -(nI a)
def zclv (a b : Nat) : Int64 := match b with
  | 0 => lN a
  | _ => -(lN a)
def zword (c : Nat) (w : Cond) : Bool := decide (lw_tbl[c]? = some w)
/-- what the tables must say of a method -/
def zmkB (y : Nat) : Bool := match zmF y with
  | [md, _, n, pc, pi, ps, pn, k, _] => zword pc (.code (zmN y) (zmB y) (zmL y) (zmR y)) && (zword pn (.initialized (zmN y).cls) && (decide ((zmN y).cls ≠ "java/lang/invoke/MethodHandle") && (decide ((zmN y).cls ≠ "java/lang/invoke/VarHandle") && (Nat.ble (zmL y) 80 && (plainName (zmN y).cls && (decide (zmO y = (zmN y).cls) && (decide ((parseMethodDescriptor (zmN y).desc).map (fun d => d.parameters.length) = some n) &&
      (match md with
        | 1 => zword pi (.static (zmN y))
        | 2 => zword pi (.instanceMethod (zmN y)) && (decide ((zmN y).name = "<init>") && (decide (zmR y = none) && decide ((vwCl[k]?).map (fun q => q.1) = some (zmN y).cls)))
        | _ => zword pi (.instanceMethod (zmN y)) && (zword ps (.selects (zmN y).cls (zmN y) (zmN y)) && decide ((vwCl[k]?).map (fun q => q.1) = some (zmN y).cls))))))))))
  | _ => false
def zswB (pc : Nat) : Int → List Int → List (Nat × Nat) → Bool
  | _, [], [] => true
  | v, o :: os, (w, t) :: ts => Nat.blt w 1000000 && (decide ((w : Int) = v) && (decide ((pc : Int) + o = (t : Int)) && zswB pc (v + 1) os ts))
  | _, _, _ => false
def zlkB (pc : Nat) : List (Int × Int) → List (Nat × Nat) → Bool
  | [], [] => true
  | (v, o) :: os, (w, t) :: ts => Nat.blt w 1000000 && (decide ((w : Int) = v) && (decide ((pc : Int) + o = (t : Int)) && zlkB pc os ts))
  | _, _ => false
/-- the word of a link -/
def zlW (t o i u v : Nat) : Cond := match t with
  | 0 => (match vwCl[u]? with
    | some q => .fieldLink (zown o) i (q.2.1 v).1 (q.2.1 v).2.1 (q.2.1 v).2.2.1
    | none => .returned)
  | 1 => .methodLink (zown o) i (zmN u)
  | 2 => .methodLinkNest (zown o) i (zmN u) "DishLift"
  | 3 => .methodLink (zown o) i Lib.objectInit
  | 4 => .methodLink (zown o) i arraycopyName
  | 5 => .constant (zown o) i (zcv u v)
  | 6 => .constantLong (zown o) i (zclv u v)
  | 7 => (match vwCl[u]? with
    | some q => .classLink (zown o) i q.1
    | none => .returned)
  | 8 => (match zst4.find? (fun q => Nat.beq q.1 u) with
    | some q => .fieldLink (zown o) i q.2.1 q.2.2 "[I"
    | none => .returned)
  | _ => .returned
theorem zLL_ok : zLL.all (fun q => zword q.2.2.2.2.2 (zlW q.1 q.2.1 q.2.2.1 q.2.2.2.1 q.2.2.2.2.1)) = true := by decide +kernel
def zlk (c t o i u v : Nat) : Bool := match zLL[c]? with
  | some (t', o', i', u', v', _) => Nat.beq t' t && (Nat.beq o' o && (Nat.beq i' i && (Nat.beq u' u && Nat.beq v' v)))
  | none => false
theorem zlk_at {c t o i u v : Nat} (h : zlk c t o i u v = true) : ∃ p : Nat, lw_tbl[p]? = some (zlW t o i u v) := by
  unfold zlk at h
  split at h
  · rename_i t' o' i' u' v' p hz
    simp only [Bool.and_eq_true, Nat.beq_eq] at h
    obtain ⟨rfl, rfl, rfl, rfl, rfl⟩ := h
    exact ⟨p, of_decide_eq_true (List.all_eq_true.mp zLL_ok _ (List.mem_of_getElem? hz))⟩
  · cases h
def zfinB (a k : Nat) : Bool := match vwCl[a]? with
  | some q => (q.2.1 k).2.2.2
  | none => false
def zfB (o idx a b c k i : Nat) (pf : Bool) (md : Nat) : Bool := Nat.blt a 9 && (Nat.blt k (znf a) && (Nat.beq b (zoff a k) && (decide (zisI a k = (match i with | 0 => false | _ => true)) && (zlk c 0 o idx a k && (!pf || (match i with
      | 0 => zfinB a k && (Nat.beq md 2 && Nat.beq o a)
      | _ => !(zfinB a k)))))))
/-- the methods that are called by contract -/
def zmlB (y : Nat) : Bool := Nat.blt y 222 || Nat.beq y 224
def zmdB (ts : List (Nat × Nat)) (F : List Nat) (m0 : Nat) : Bool := match ts, F with
  | [(n, _)], [md, _, n', _, _, _, _, _, _] => Nat.beq n n' && Nat.beq md m0
  | _, _ => false
/-- a row is what the bytes say, and its words are in the tables -/
def zrc (y : Nat) (r : zR) : Bool := match r with
  | (pc, ins, len, _, a, b, c, ts) => decide (decode (zmB y) pc = .ok (ins, len)) && (match ins with
    | .iconst n => Nat.beq len 1 && decide (Int32.ofInt n = zcv a b)
    | .bipush n => Nat.beq len 2 && decide ((Int8.ofInt n).toInt32 = zcv a b)
    | .sipush n => Nat.beq len 3 && decide ((Int16.ofInt n).toInt32 = zcv a b)
    | .lconst n => Nat.beq len 1 && decide (Int64.ofNat (n : Nat) = zclv a b)
    | .ldc k => Nat.beq len 2 && zlk c 5 (zmo y) k a b
    | .ldc_w k => Nat.beq len 3 && zlk c 5 (zmo y) k a b
    | .ldc2_w k => Nat.beq len 3 && zlk c 6 (zmo y) k a b
    | .iload _ | .lload _ | .aload _ | .istore _ | .lstore _ | .astore _ => Nat.beq len 2
    | .iinc _ n => Nat.beq len 3 && decide (Int32.ofInt n = zcv a b)
    | .ifCond _ off | .if_icmp _ off | .goto off | .ifnull off | .ifnonnull off => Nat.beq len 3 && decide ((pc : Int) + off = (a : Int))
    | .tableswitch dflt lo hi offs => decide ((pc : Int) + dflt = (a : Int)) && (decide (hi = lo + (offs.size : Int) - 1) && (decide (0 ≤ lo) && zswB pc lo offs.toList ts))
    | .lookupswitch dflt ps => decide ((pc : Int) + dflt = (a : Int)) && ((ps.toList.zip (ps.toList.drop 1)).all (fun (a, next) => a.1 < next.1) && zlkB pc ps.toList ts)
    | .getfield k => Nat.beq len 3 && (match ts with
      | [(sl, i)] => zfB (zmo y) k a b c sl i false 0
      | _ => false)
    | .putfield k => Nat.beq len 3 && (match ts with
      | [(sl, i)] => zmlB y && zfB (zmo y) k a b c sl i true ((zmF y).getD 0 9)
      | _ => false)
    | .getstatic k => Nat.beq len 3 && (zst4.any (fun q => Nat.beq q.1 a) && zlk c 8 (zmo y) k a 0)
    | .new k => Nat.beq len 3 && (Nat.blt a 9 && zlk c 7 (zmo y) k a 0)
    | .newarray _ => Nat.beq len 2
    | .anewarray k => Nat.beq len 3 && zlk c 7 (zmo y) k 3 0
    | .multianewarray .. => true
    | .invokevirtual k => Nat.beq len 3 && (Nat.beq b 1 && (zmlB a && (zlk c 1 (zmo y) k a 0 && zmdB ts (zmF a) 0)))
    | .invokestatic k => Nat.beq len 3 && (match b with
      | 5 => zlk c 4 (zmo y) k 0 0
      | 6 => Nat.beq a 222 && zlk c 1 (zmo y) k a 0
      | 7 => Nat.beq a 223 && zlk c 1 (zmo y) k a 0
      | 8 => Nat.beq a 226 && zlk c 1 (zmo y) k a 0
      | 0 => zmlB a && (zlk c 1 (zmo y) k a 0 && zmdB ts (zmF a) 1)
      | _ => false)
    | .invokespecial k => Nat.beq len 3 && (match b with
      | 4 => zlk c 3 (zmo y) k 0 0
      | 2 => zmlB a && (zlk c 1 (zmo y) k a 0 && zmdB ts (zmF a) 2)
      | 3 => zmlB a && (zlk c 2 (zmo y) k a 0 && zmdB ts (zmF a) 2)
      | _ => false)
    | .ireturn => Nat.beq len 1 && (match b with
      | 0 => decide (zmR y = some .int)
      | _ => decide (zmR y = some .boolean))
    | .lreturn => Nat.beq len 1 && decide (zmR y = some .long)
    | .areturn => Nat.beq len 1 && (match zmR y with
      | some (.object _) => true
      | _ => false)
    | .return_ => Nat.beq len 1 && decide (zmR y = none)
    | _ => Nat.beq len 1)
def zadj : List zR → Bool
  | r :: r' :: l => Nat.beq (r.1 + r.2.2.1) r'.1 && zadj (r' :: l)
  | _ => true
def zchk (y : Nat) : Bool := (zmT y).all (zrc y) && zadj (zmT y)
