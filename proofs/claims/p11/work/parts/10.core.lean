/-! THE PURE MACHINE: a cell is its kind and what it holds; kinds below 100 are objects, 100 int 101 byte 102 char 103 boolean 104 long rows, from 110 on rows of references to objects of kind c - 110. A method is its name, bytes, locals, answer's type, and its instructions: place in the bytes, length, instruction, resolved numbers. -/
abbrev xO : Type := Nat × List Value
abbrev xH : Type := List xO
abbrev xL : Type := List (Option Value)
abbrev xE : Type := Nat × Nat × Instr × List Nat
abbrev xM : Type := MethodName × ByteArray × Nat × Option FieldType × List xE
/-- may a place of type code t hold v: 0 int, 1 boolean, 2 reference, 3 long, 4 char, 5 byte -/
def xfit (t : Nat) (v : Value) : Bool := match t, v with
  | 0, .int _ => true
  | 1, .int x => x == 0 || x == 1
  | 2, .null => true
  | 2, .ref _ => true
  | 3, .long _ => true
  | 4, .int x => 0 ≤ x && x ≤ 65535
  | 5, .int x => -128 ≤ x && x ≤ 127
  | _, _ => false
def xtc (ty : FieldType) : Nat := match ty with
  | .int => 0
  | .boolean => 1
  | .object _ => 2
  | .array _ => 2
  | .long => 3
  | .char => 4
  | .byte => 5
  | _ => 9
def xdef (t : Nat) : Value := match t with
  | 2 => .null
  | 3 => .long 0
  | _ => .int 0
/-- the stack alone -/
def xS (ins : Instr) (st : List Value) : Option (List Value) := match ins, st with
  | .iconst n, st => some (.int (Int32.ofInt n) :: st)
  | .bipush n, st => some (.int (Int8.ofInt n).toInt32 :: st)
  | .sipush n, st => some (.int (Int16.ofInt n).toInt32 :: st)
  | .lconst n, st => some (.long (Int64.ofNat (n : Nat)) :: st)
  | .aconst_null, st => some (.null :: st)
  | .iadd, .int y :: .int x :: r => some (.int (x + y) :: r)
  | .isub, .int y :: .int x :: r => some (.int (x - y) :: r)
  | .imul, .int y :: .int x :: r => some (.int (x * y) :: r)
  | .iand, .int y :: .int x :: r => some (.int (x &&& y) :: r)
  | .ior, .int y :: .int x :: r => some (.int (x ||| y) :: r)
  | .ixor, .int y :: .int x :: r => some (.int (x ^^^ y) :: r)
  | .ishl, .int y :: .int x :: r => some (.int (x <<< (y &&& 31)) :: r)
  | .ishr, .int y :: .int x :: r => some (.int (x >>> (y &&& 31)) :: r)
  | .iushr, .int y :: .int x :: r => some (.int (x.toUInt32 >>> (y.toUInt32 &&& Int32.toUInt32 31)).toInt32 :: r)
  | .ineg, .int x :: r => some (.int (-x) :: r)
  | .idiv, .int y :: .int x :: r => if y = 0 then none else some (.int (x / y) :: r)
  | .irem, .int y :: .int x :: r => if y = 0 then none else some (.int (x - x / y * y) :: r)
  | .i2c, .int x :: r => some (.int (x.toUInt32 % 65536).toInt32 :: r)
  | .i2b, .int x :: r => some (.int x.toInt8.toInt32 :: r)
  | .i2l, .int x :: r => some (.long x.toInt64 :: r)
  | .l2i, .long x :: r => some (.int x.toInt32 :: r)
  | .land, .long y :: .long x :: r => some (.long (x &&& y) :: r)
  | .lshr, .int y :: .long x :: r => some (.long (x >>> (y.toInt64 &&& 63)) :: r)
  | .lcmp, .long y :: .long x :: r => some (.int (lg_cmp x y) :: r)
  | .dup, v :: r => if v.category = 1 then some (v :: v :: r) else none
  | .dup2, a :: b :: r => if a.category = 1 ∧ b.category = 1 then some (a :: b :: a :: b :: r) else none
  | .pop, v :: r => if v.category = 1 then some r else none
  | _, _ => none
/-- the locals -/
def xld (t i : Nat) (ls : xL) : Option Value := match ls[i]? with
  | some (some v) => if xfit t v then some v else none
  | _ => none
def xnl (i : Nat) (ls : xL) : Bool := match i with
  | 0 => true
  | j + 1 => match ls[j]? with
    | some (some w) => w.category == 1
    | _ => true
def xst1 (i : Nat) (v : Value) (ls : xL) : Option xL := if i < ls.length ∧ xnl i ls = true then some (ls.set i (some v)) else none
def xst2 (i : Nat) (v : Value) (ls : xL) : Option xL := if i + 1 < ls.length ∧ xnl i ls = true then some ((ls.set i (some v)).set (i + 1) none) else none
def xV (ins : Instr) (ls : xL) (st : List Value) : Option (xL × List Value) := match ins, st with
  | .iload i, st => (xld 0 i ls).map fun v => (ls, v :: st)
  | .iload_n k, st => (xld 0 k.val ls).map fun v => (ls, v :: st)
  | .aload i, st => (xld 2 i ls).map fun v => (ls, v :: st)
  | .aload_n k, st => (xld 2 k.val ls).map fun v => (ls, v :: st)
  | .lload i, st => (xld 3 i ls).map fun v => (ls, v :: st)
  | .lload_n k, st => (xld 3 k.val ls).map fun v => (ls, v :: st)
  | .istore i, .int x :: r => (xst1 i (.int x) ls).map fun l => (l, r)
  | .istore_n k, .int x :: r => (xst1 k.val (.int x) ls).map fun l => (l, r)
  | .astore i, .ref a :: r => (xst1 i (.ref a) ls).map fun l => (l, r)
  | .astore_n k, .ref a :: r => (xst1 k.val (.ref a) ls).map fun l => (l, r)
  | .astore i, .null :: r => (xst1 i .null ls).map fun l => (l, r)
  | .astore_n k, .null :: r => (xst1 k.val .null ls).map fun l => (l, r)
  | .lstore i, .long x :: r => (xst2 i (.long x) ls).map fun l => (l, r)
  | .lstore_n k, .long x :: r => (xst2 k.val (.long x) ls).map fun l => (l, r)
  | .iinc i n, st => match ls[i]? with
    | some (some (.int x)) => (xst1 i (.int (x + Int32.ofInt n)) ls).map fun l => (l, st)
    | _ => none
  | _, _ => none
/-- where to go on -/
def xcn (c : ClassFile.Cond) (x y : Int32) : Bool := match c with
  | .eq => decide (x = y)
  | .ne => decide (¬ x = y)
  | .lt => decide (x < y)
  | .ge => decide (y ≤ x)
  | .gt => decide (y < x)
  | .le => decide (x ≤ y)
def xlk (ps : List (Int × Int)) (ts : List Nat) (t0 : Nat) (x : Int) : Nat := match ps, ts with
  | (a, _) :: ps, t :: ts => if x = a then t else xlk ps ts t0 x
  | _, _ => t0
def xB (ins : Instr) (ax : List Nat) (i : Nat) (st : List Value) : Option (Nat × List Value) := match ins, ax, st with
  | .goto _, [t], st => some (t, st)
  | .ifCond c _, [t], .int x :: r => some (if xcn c x 0 = true then t else i + 1, r)
  | .if_icmp c _, [t], .int y :: .int x :: r => some (if xcn c x y = true then t else i + 1, r)
  | .ifnull _, [t], .null :: r => some (t, r)
  | .ifnull _, [_], .ref _ :: r => some (i + 1, r)
  | .ifnonnull _, [_], .null :: r => some (i + 1, r)
  | .ifnonnull _, [t], .ref _ :: r => some (t, r)
  | .tableswitch _ lo hi _, t0 :: ts, .int x :: r => if x.toInt < lo ∨ hi < x.toInt then some (t0, r) else (ts[(x.toInt - lo).toNat]?).map fun t => (t, r)
  | .lookupswitch _ ps, t0 :: ts, .int x :: r => some (xlk ps.toList ts t0 x.toInt, r)
  | _, _, _ => none
/-- reading the heap -/
def xat (ok : Bool) (vs : List Value) (j : Int32) : Option Value := if ok = true ∧ ¬ j < 0 then vs[j.toNatClampNeg]? else none
def xR (ins : Instr) (ax : List Nat) (st : List Value) (hp : xH) : Option (List Value) := match ins, ax, st with
  | .getfield _, ci :: k :: _, .ref a :: r => match hp[a]? with
    | some (c, vs) => if c = ci then (vs[k]?).map fun v => v :: r else none
    | none => none
  | .arraylength, _, .ref a :: r => match hp[a]? with
    | some (c, vs) => if 100 ≤ c then some (.int (Int32.ofNat vs.length) :: r) else none
    | none => none
  | .iaload, _, .int j :: .ref a :: r => match hp[a]? with
    | some (c, vs) => (xat (c == 100) vs j).map fun v => v :: r
    | none => none
  | .baload, _, .int j :: .ref a :: r => match hp[a]? with
    | some (c, vs) => (xat (c == 101 || c == 103) vs j).map fun v => v :: r
    | none => none
  | .caload, _, .int j :: .ref a :: r => match hp[a]? with
    | some (c, vs) => (xat (c == 102) vs j).map fun v => v :: r
    | none => none
  | .laload, _, .int j :: .ref a :: r => match hp[a]? with
    | some (c, vs) => (xat (c == 104) vs j).map fun v => v :: r
    | none => none
  | .aaload, _, .int j :: .ref a :: r => match hp[a]? with
    | some (c, vs) => (xat (decide (110 ≤ c)) vs j).map fun v => v :: r
    | none => none
  | _, _, _ => none
/-- writing the heap; what stands below K is never written -/
def xup (K : Nat) (hp : xH) (a : Nat) (ok : Nat → Bool) (j : Int32) (v : Nat → Value) : Option xH := match hp[a]? with
  | some (c, vs) => if K ≤ a ∧ ok c = true ∧ ¬ j < 0 ∧ j.toNatClampNeg < vs.length then some (hp.set a (c, vs.set j.toNatClampNeg (v c))) else none
  | none => none
def xnar (c : Nat) (x : Int32) : Value := if c = 103 then narrow .boolean (.int x) else narrow .byte (.int x)
def xW (K : Nat) (ins : Instr) (ax : List Nat) (st : List Value) (hp : xH) : Option (List Value × xH) := match ins, ax, st with
  | .putfield _, ci :: k :: t :: _, v :: .ref a :: r => match hp[a]? with
    | some (c, vs) => if K ≤ a ∧ c = ci ∧ k < vs.length ∧ xfit t v = true then some (r, hp.set a (c, vs.set k v)) else none
    | none => none
  | .iastore, _, .int x :: .int j :: .ref a :: r => (xup K hp a (fun c => c == 100) j (fun _ => .int x)).map fun h => (r, h)
  | .bastore, _, .int x :: .int j :: .ref a :: r => (xup K hp a (fun c => c == 101 || c == 103) j (fun c => xnar c x)).map fun h => (r, h)
  | .castore, _, .int x :: .int j :: .ref a :: r => (xup K hp a (fun c => c == 102) j (fun _ => narrow .char (.int x))).map fun h => (r, h)
  | .lastore, _, .long x :: .int j :: .ref a :: r => (xup K hp a (fun c => c == 104) j (fun _ => .long x)).map fun h => (r, h)
  | .aastore, ci :: _, .ref v :: .int j :: .ref a :: r => match hp[v]? with
    | some (cv, _) => if cv = ci ∧ ci < 100 then (xup K hp a (fun c => c == 110 + ci) j (fun _ => .ref v)).map fun h => (r, h) else none
    | none => none
  | _, _, _ => none
/-- new cells -/
def xat2 (t : ArrayType) : Nat := match t with
  | .int => 100
  | .byte => 101
  | .char => 102
  | .boolean => 103
  | .long => 104
  | _ => 99
def xA (ins : Instr) (ax : List Nat) (st : List Value) (hp : xH) : Option (List Value × xH) := match ins, ax, st with
  | .new _, ci :: ts, st => if ci < 80 then some (.ref hp.length :: st, hp ++ [(ci, ts.map xdef)]) else none
  | .newarray t, _, .int n :: r => if ¬ n < 0 ∧ n.toNatClampNeg ≤ 100000 ∧ 100 ≤ xat2 t then some (.ref hp.length :: r, hp ++ [(xat2 t, List.replicate n.toNatClampNeg (if t = .long then .long 0 else .int 0))]) else none
  | .anewarray _, [ci], .int n :: r => if ¬ n < 0 ∧ n.toNatClampNeg ≤ 100000 ∧ ci < 100 then some (.ref hp.length :: r, hp ++ [(110 + ci, List.replicate n.toNatClampNeg .null)]) else none
  | _, _, _ => none
/-- one step that is no call and no end -/
def x1 (K : Nat) (ins : Instr) (ax : List Nat) (i : Nat) (ls : xL) (st : List Value) (hp : xH) : Option (Nat × xL × List Value × xH) :=
  match xS ins st with
  | some st' => some (i + 1, ls, st', hp)
  | none => match xV ins ls st with
    | some (ls', st') => some (i + 1, ls', st', hp)
    | none => match xB ins ax i st with
      | some (i', st') => some (i', ls, st', hp)
      | none => match xR ins ax st hp with
        | some st' => some (i + 1, ls, st', hp)
        | none => match xW K ins ax st hp with
          | some (st', hp') => some (i + 1, ls, st', hp')
          | none => match xA ins ax st hp with
            | some (st', hp') => some (i + 1, ls, st', hp')
            | none => none
/-- constants, by their numbers -/
def xT (Cs : List Value) (ins : Instr) (ax : List Nat) (st : List Value) : Option (List Value) := match ins, ax with
  | .ldc _, c :: _ => (Cs[c]?).map fun v => v :: st
  | .ldc_w _, c :: _ => (Cs[c]?).map fun v => v :: st
  | .ldc2_w _, c :: _ => (Cs[c]?).map fun v => v :: st
  | .getstatic _, c :: _ => (Cs[c]?).map fun v => v :: st
  | _, _ => none
/-- an answer, or what was thrown -/
abbrev xZ : Type := Option Value ⊕ Nat
abbrev xQ6 : Type := MethodName × ByteArray × Nat × Option FieldType × List (Nat × Nat × Nat × Nat × Nat) × List xE
def xret (rt : Option FieldType) (ins : Instr) (st : List Value) : Option (Option Value) := match ins, rt, st with
  | .return_, none, [] => some none
  | .ireturn, some ty, [.int v] => if xfit (xtc ty) (.int v) = true then some (some (.int v)) else none
  | .areturn, some ty, [v] => if xtc ty = 2 ∧ xfit 2 v = true then some (some v) else none
  | .lreturn, some .long, [.long v] => some (some (.long v))
  | _, _, _ => none
/-- a call: which method, with what, what stays on the stack -/
def xcall (ins : Instr) (ax : List Nat) (st : List Value) (hp : xH) : Option (Nat × List Value × List Value) :=
  match ins, ax with
  | .invokestatic _, 0 :: k :: n :: _ => if n ≤ st.length ∧ ((st.drop n).map fun v => v.category).sum ≤ 8 then some (k, (st.take n).reverse, st.drop n) else none
  | .invokespecial _, 0 :: k :: n :: _ => match st[n]? with
    | some (.ref a) => if ((st.drop (n + 1)).map fun v => v.category).sum ≤ 8 then some (k, .ref a :: (st.take n).reverse, st.drop (n + 1)) else none
    | _ => none
  | .invokevirtual _, 0 :: k :: n :: ci :: _ => match st[n]? with
    | some (.ref a) => match hp[a]? with
      | some (c, _) => if c = ci ∧ ((st.drop (n + 1)).map fun v => v.category).sum ≤ 8 then some (k, .ref a :: (st.take n).reverse, st.drop (n + 1)) else none
      | none => none
    | _ => none
  | _, _ => none
/-- Object's own constructor, and copying between rows -/
def xsp (K : Nat) (ins : Instr) (ax : List Nat) (st : List Value) (hp : xH) : Option (List Value × xH) := match ins, ax, st with
  | .invokespecial _, [1], .ref _ :: r => if (r.map fun v => v.category).sum ≤ 8 then some (r, hp) else none
  | .invokestatic _, [2], .int n :: .int dp :: .ref d :: .int sp :: .ref q :: r => match hp[q]?, hp[d]? with
    | some (cq, vq), some (cd, vd) => if (r.map fun v => v.category).sum ≤ 8 ∧ K ≤ d ∧ q ≠ d ∧ cq = 100 ∧ cd = 100 ∧ ¬ sp < 0 ∧ ¬ dp < 0 ∧ ¬ n < 0 ∧ sp.toNatClampNeg + n.toNatClampNeg ≤ vq.length ∧ dp.toNatClampNeg + n.toNatClampNeg ≤ vd.length ∧ ((vq.drop sp.toNatClampNeg).take n.toNatClampNeg).all (xfit 0) = true
        then some (r, hp.set d (cd, vd.take dp.toNatClampNeg ++ (vq.drop sp.toNatClampNeg).take n.toNatClampNeg ++ vd.drop (dp.toNatClampNeg + n.toNatClampNeg))) else none
    | _, _ => none
  | .invokestatic _, [3], .int y :: .int x :: r => if (r.map fun v => v.category).sum ≤ 8 then some (.int (if x < y then y else x) :: r, hp) else none
  | .invokestatic _, [4], .int y :: .int x :: r => if (r.map fun v => v.category).sum ≤ 8 then some (.int (if y < x then y else x) :: r, hp) else none
  | _, _, _ => none
/-- a throw of a new object: its number z is told by 200 + z at its 'new' -/
def xthr (ins : Instr) (ax : List Nat) : Option Nat := match ins, ax with
  | .new _, c :: _ => if 200 ≤ c then some (c - 200) else none
  | _, _ => none
def xent (as : List Value) (mx : Nat) : xL := let a := as.flatMap fun v => if v.category = 2 then [some v, none] else [some v]
  a ++ List.replicate (mx - a.length) none
def xhd (hs : List (Nat × Nat × Nat × Nat × Nat)) (i z : Nat) : Option Nat := match hs with
  | [] => none
  | (a, b, t, y, _) :: hs => if a ≤ i ∧ i < b ∧ y = z then some t else xhd hs i z
def ex (P : List xQ6) (Cs : List Value) (K : Nat) : Nat → Nat → Nat → Nat → xL → List Value → xH → Option (xZ × xH)
  | 0, _, _, _, _, _, _ => none
  | n + 1, d, k, i, ls, st, hp => match P[k]? with
    | none => none
    | some M => match M.2.2.2.2.2[i]? with
      | none => none
      | some (_, _, ins, ax) => match x1 K ins ax i ls st hp with
        | some (i', ls', st', hp') => ex P Cs K n d k i' ls' st' hp'
        | none => match xT Cs ins ax st with
          | some st' => ex P Cs K n d k (i + 1) ls st' hp
          | none => match xret M.2.2.2.1 ins st with
            | some r => some (.inl r, hp)
            | none => match d with
              | 0 => none
              | d' + 1 => match xsp K ins ax st hp with
                | some (st', hp') => ex P Cs K n (d' + 1) k (i + 1) ls st' hp'
                | none => match xcall ins ax st hp with
                  | some (k', as, r) => match P[k']? with
                    | none => none
                    | some M' => if (xent as M'.2.2.1).length = M'.2.2.1 then match ex P Cs K n d' k' 0 (xent as M'.2.2.1) [] hp with
                      | none => none
                      | some (.inl v, hp') => ex P Cs K n (d' + 1) k (i + 1) ls (v.toList ++ r) hp'
                      | some (.inr z, hp') => match xhd M.2.2.2.2.1 i z with
                        | none => none
                        | some t => ex P Cs K n (d' + 1) k t ls [.ref (hp'.length - 1)] hp'
                      else none
                  | none => match xthr ins ax with
                    | some z => if 8 ≤ d' ∧ st.isEmpty = true then some (.inr z, hp ++ [(80 + z, [])]) else none
                    | none => none
