/-! the checks of rows, by program -/
def zcv (a b : Nat) : Int32 := match b with
  | 0 => nI a
  | _ => -(nI a)
def zclv (a b : Nat) : Int64 := match b with
  | 0 => lN a
  | _ => -(lN a)
def zword (c : Nat) (w : Cond) : Bool := decide (lw_tbl[c]? = some w)
/-- what the tables must say of a method -/
def zmkB (y : Nat) : Bool := match zmF y with
  | [md, _, n, pc, pi, ps, pn, k] => zword pc (.code (zmN y) (zmB y) (zmL y) (zmR y)) && (zword pn (.initialized (zmN y).cls) && (decide ((zmN y).cls ≠ "java/lang/invoke/MethodHandle") && (decide ((zmN y).cls ≠ "java/lang/invoke/VarHandle") && (Nat.ble (zmL y) 80 && (plainName (zmN y).cls && (decide (zmO y = (zmN y).cls) && (decide ((parseMethodDescriptor (zmN y).desc).map (fun d => d.parameters.length) = some n) &&
      (match md with
        | 1 => zword pi (.static (zmN y))
        | 2 => zword pi (.instanceMethod (zmN y)) && (decide ((zmN y).name = "<init>") && (decide (zmR y = none) && decide ((vwCl[k]?).map (fun q => q.1) = some (zmN y).cls)))
        | _ => zword pi (.instanceMethod (zmN y)) && (zword ps (.selects (zmN y).cls (zmN y) (zmN y)) && decide ((vwCl[k]?).map (fun q => q.1) = some (zmN y).cls))))))))))
  | _ => false
def zswB (pc : Nat) : Int → List Int → List (Nat × Nat) → Bool
  | _, [], [] => true
  | v, o :: os, (w, t) :: ts => Nat.blt w 1000000 && (decide ((w : Int) = v) && (decide ((pc : Int) + o = (t : Int)) && zswB pc (v + 1) os ts))
  | _, _, _ => false
def zlkB (pc : Nat) : List (Int × Int) → List (Nat × Nat) → Bool
  | [], [] => true
  | (v, o) :: os, (w, t) :: ts => Nat.blt w 1000000 && (decide ((w : Int) = v) && (decide ((pc : Int) + o = (t : Int)) && zlkB pc os ts))
  | _, _ => false
def zfB (own : String) (idx a b c k i : Nat) (pf : Bool) (nm : String) : Bool := match vwCl[a]? with
  | some q => Nat.blt k (znf a) && (Nat.beq b (zoff a k) && (decide (zisI a k = (match i with | 0 => false | _ => true)) && (zword c (.fieldLink own idx (q.2.1 k).1 (q.2.1 k).2.1 (q.2.1 k).2.2.1) && (!pf || ((match i with
      | 0 => decide ((q.2.1 k).2.2.2 = true) && (decide (nm = "<init>") && decide ((q.2.1 k).1 = own))
      | _ => decide ((q.2.1 k).2.2.2 = false)))))))
  | none => false
def zmdB (ts : List (Nat × Nat)) (F : List Nat) (m0 : Nat) : Bool := match ts, F with
  | [(n, _)], [md, _, n', _, _, _, _, _] => Nat.beq n n' && Nat.beq md m0
  | _, _ => false
/-- a row is what the bytes say, and its words are in the tables -/
def zrc (y : Nat) (r : zR) : Bool := match r with
  | (pc, ins, len, _, a, b, c, ts) => decide (decode (zmB y) pc = .ok (ins, len)) && (match ins with
    | .iconst n => Nat.beq len 1 && decide (Int32.ofInt n = zcv a b)
    | .bipush n => Nat.beq len 2 && decide ((Int8.ofInt n).toInt32 = zcv a b)
    | .sipush n => Nat.beq len 3 && decide ((Int16.ofInt n).toInt32 = zcv a b)
    | .lconst n => Nat.beq len 1 && decide (Int64.ofNat (n : Nat) = zclv a b)
    | .ldc k => Nat.beq len 2 && zword c (.constant (zmO y) k (zcv a b))
    | .ldc_w k => Nat.beq len 3 && zword c (.constant (zmO y) k (zcv a b))
    | .ldc2_w k => Nat.beq len 3 && zword c (.constantLong (zmO y) k (zclv a b))
    | .iload _ | .lload _ | .aload _ | .istore _ | .lstore _ | .astore _ => Nat.beq len 2
    | .iinc _ n => Nat.beq len 3 && decide (Int32.ofInt n = zcv a b)
    | .ifCond _ off | .if_icmp _ off | .goto off | .ifnull off | .ifnonnull off => Nat.beq len 3 && decide ((pc : Int) + off = (a : Int))
    | .tableswitch dflt lo hi offs => decide ((pc : Int) + dflt = (a : Int)) && (decide (hi = lo + (offs.size : Int) - 1) && (decide (0 ≤ lo) && zswB pc lo offs.toList ts))
    | .lookupswitch dflt ps => decide ((pc : Int) + dflt = (a : Int)) && ((ps.toList.zip (ps.toList.drop 1)).all (fun (a, next) => a.1 < next.1) && zlkB pc ps.toList ts)
    | .getfield k => Nat.beq len 3 && (match ts with
      | [(sl, i)] => zfB (zmO y) k a b c sl i false ""
      | _ => false)
    | .putfield k => Nat.beq len 3 && (match ts with
      | [(sl, i)] => zfB (zmO y) k a b c sl i true (zmN y).name
      | _ => false)
    | .getstatic k => Nat.beq len 3 && (zst4.any (fun q => Nat.beq q.1 a && zword c (.fieldLink (zmO y) k q.2.1 q.2.2 "[I")))
    | .new k => Nat.beq len 3 && (match vwCl[a]? with
      | some q => zword c (.classLink (zmO y) k q.1)
      | none => false)
    | .newarray _ => Nat.beq len 2
    | .anewarray k => Nat.beq len 3 && zword c (.classLink (zmO y) k "DishLift$House")
    | .multianewarray .. => true
    | .invokevirtual k => Nat.beq len 3 && (Nat.beq b 1 && (zmkB a && (zword c (.methodLink (zmO y) k (zmN a)) && zmdB ts (zmF a) 0)))
    | .invokestatic k => Nat.beq len 3 && (match b with
      | 5 => zword c (.methodLink (zmO y) k arraycopyName)
      | 0 => zmkB a && (zword c (.methodLink (zmO y) k (zmN a)) && zmdB ts (zmF a) 1)
      | _ => false)
    | .invokespecial k => Nat.beq len 3 && (match b with
      | 4 => zword c (.methodLink (zmO y) k Lib.objectInit)
      | 2 => zmkB a && (zword c (.methodLink (zmO y) k (zmN a)) && zmdB ts (zmF a) 2)
      | 3 => zmkB a && (zword c (.methodLinkNest (zmO y) k (zmN a) "DishLift") && zmdB ts (zmF a) 2)
      | _ => false)
    | .ireturn => Nat.beq len 1 && (match b with
      | 0 => decide (zmR y = some .int)
      | _ => decide (zmR y = some .boolean))
    | .lreturn => Nat.beq len 1 && decide (zmR y = some .long)
    | .areturn => Nat.beq len 1 && (match zmR y with
      | some (.object _) => true
      | _ => false)
    | .return_ => Nat.beq len 1 && decide (zmR y = none)
    | _ => Nat.beq len 1)
def zadj : List zR → Bool
  | r :: r' :: l => Nat.beq (r.1 + r.2.2.1) r'.1 && zadj (r' :: l)
  | _ => true
def zchk (y : Nat) : Bool := (zmT y).all (zrc y) && zadj (zmT y)
