/-! THE SMALL MACHINE: ints, longs, null, references by number of making (.ref k), outer references (.float i); cells: arrays (number of the type, length, contents) and objects (number of the class, fields). One function runs the decoded code of all methods; its soundness for the machine is shown once, in the parts behind. -/
abbrev zC : Type := (Nat × vp_A) ⊕ (Nat × List Value)
abbrev zH : Type := List zC × Nat
abbrev zL : Type := List (Option Value)
abbrev zO : Type := Option Value ⊕ Nat
abbrev zR : Type := Option (zO × zH)
abbrev zX : Type := List (UInt32 ⊕ (Nat × Nat × (Nat → Int32)))
abbrev zJ : Type := Nat × Instr × Nat × Nat × Nat
/-- a method: code, locals, what it returns, where it catches (place of the call, exception, local, where to go on) -/
abbrev zM : Type := List (Nat × zJ) × Nat × Option FieldType × List (Nat × Nat × Nat × Nat)
def zat {α : Type} : List (Nat × α) → Nat → Option α
  | [], _ => none
  | q :: r, i => bif Nat.beq q.1 i then some q.2 else zat r i
/-- the length of an instruction (of those that are run here) -/
def zlen : Instr → Nat
  | .bipush _ => 2
  | .sipush _ => 3
  | .ldc _ => 2
  | .ldc_w _ => 3
  | .ldc2_w _ => 3
  | .iload _ => 2
  | .lload _ => 2
  | .aload _ => 2
  | .istore _ => 2
  | .lstore _ => 2
  | .astore _ => 2
  | .iinc _ _ => 3
  | .goto _ => 3
  | .ifCond _ _ => 3
  | .if_icmp _ _ => 3
  | .getfield _ => 3
  | .putfield _ => 3
  | .getstatic _ => 3
  | .invokevirtual _ => 3
  | .invokespecial _ => 3
  | .invokestatic _ => 3
  | .new _ => 3
  | .newarray _ => 2
  | _ => 1
/-- what only takes from the stack and puts on it -/
def zpure (ins : Instr) (st : List Value) (K : List Value → zR) : zR := match ins with
  | .iconst n => K (.int (Int32.ofInt n) :: st)
  | .bipush n => K (.int (Int8.ofInt n).toInt32 :: st)
  | .sipush n => K (.int (Int16.ofInt n).toInt32 :: st)
  | .lconst n => K (.long (Int64.ofNat (n : Nat)) :: st)
  | .iadd => match st with
    | .int y :: .int x :: r => K (.int (x + y) :: r)
    | _ => none
  | .isub => match st with
    | .int y :: .int x :: r => K (.int (x - y) :: r)
    | _ => none
  | .imul => match st with
    | .int y :: .int x :: r => K (.int (x * y) :: r)
    | _ => none
  | .idiv => match st with
    | .int y :: .int x :: r => if y = 0 then none else K (.int (x / y) :: r)
    | _ => none
  | .irem => match st with
    | .int y :: .int x :: r => if y = 0 then none else K (.int (x - x / y * y) :: r)
    | _ => none
  | .ineg => match st with
    | .int x :: r => K (.int (-x) :: r)
    | _ => none
  | .iand => match st with
    | .int y :: .int x :: r => K (.int (x &&& y) :: r)
    | _ => none
  | .ior => match st with
    | .int y :: .int x :: r => K (.int (x ||| y) :: r)
    | _ => none
  | .ixor => match st with
    | .int y :: .int x :: r => K (.int (x ^^^ y) :: r)
    | _ => none
  | .ishl => match st with
    | .int y :: .int x :: r => K (.int (x <<< (y &&& 31)) :: r)
    | _ => none
  | .ishr => match st with
    | .int y :: .int x :: r => K (.int (x >>> (y &&& 31)) :: r)
    | _ => none
  | .iushr => match st with
    | .int y :: .int x :: r => K (.int (x.toUInt32 >>> (y.toUInt32 &&& Int32.toUInt32 31)).toInt32 :: r)
    | _ => none
  | .lsub => match st with
    | .long y :: .long x :: r => K (.long (x - y) :: r)
    | _ => none
  | .lor => match st with
    | .long y :: .long x :: r => K (.long (x ||| y) :: r)
    | _ => none
  | .lshl => match st with
    | .int y :: .long x :: r => K (.long (x <<< (y.toInt64 &&& 63)) :: r)
    | _ => none
  | .lcmp => match st with
    | .long y :: .long x :: r => K (.int (lg_cmp x y) :: r)
    | _ => none
  | .i2l => match st with
    | .int x :: r => K (.long x.toInt64 :: r)
    | _ => none
  | .i2b => match st with
    | .int x :: r => K (.int x.toInt8.toInt32 :: r)
    | _ => none
  | .i2c => match st with
    | .int x :: r => K (.int (x.toUInt32 % 65536).toInt32 :: r)
    | _ => none
  | .dup => match st with
    | .int x :: r => K (.int x :: .int x :: r)
    | .ref x :: r => K (.ref x :: .ref x :: r)
    | _ => none
  | .dup2 => match st with
    | .int x :: .ref y :: r => K (.int x :: .ref y :: .int x :: .ref y :: r)
    | .int x :: .int y :: r => K (.int x :: .int y :: .int x :: .int y :: r)
    | _ => none
  | .pop => match st with
    | .int x :: r => K r
    | .ref x :: r => K r
    | _ => none
  | _ => none
def zli (L : zL) (i : Nat) (K : Value → zR) : zR := match L[i]? with
  | some (some (.int x)) => K (.int x)
  | _ => none
def zll (L : zL) (i : Nat) (K : Value → zR) : zR := match L[i]? with
  | some (some (.long x)) => K (.long x)
  | _ => none
def zla (L : zL) (i : Nat) (K : Value → zR) : zR := match L[i]? with
  | some (some (.ref x)) => K (.ref x)
  | some (some (.float x)) => K (.float x)
  | _ => none
def zload (ins : Instr) (L : zL) (K : Value → zR) : zR := match ins with
  | .iload_n k => zli L (k : Nat) K
  | .iload i => zli L i K
  | .lload_n k => zll L (k : Nat) K
  | .lload i => zll L i K
  | .aload_n k => zla L (k : Nat) K
  | .aload i => zla L i K
  | _ => none
/-- a long stands just ahead of this local -/
def zlg (L : zL) : Nat → Bool
  | 0 => false
  | j + 1 => match L[j]? with
    | some (some (.long _)) => true
    | some (some (.double _)) => true
    | _ => false
def zst (L : zL) (i : Nat) (v : Value) (K : zL → zR) : zR := bif Nat.blt i L.length then (bif zlg L i then none else K (L.set i (some v))) else none
def zst2 (L : zL) (i : Nat) (x : Int64) (K : zL → zR) : zR := bif Nat.blt (i + 1) L.length then (bif zlg L i then none else K ((L.set i (some (.long x))).set (i + 1) none)) else none
def zsi (L : zL) (i : Nat) (st : List Value) (K : List Value → zL → zR) : zR := match st with
  | .int x :: r => zst L i (.int x) (K r)
  | _ => none
def zsl (L : zL) (i : Nat) (st : List Value) (K : List Value → zL → zR) : zR := match st with
  | .long x :: r => zst2 L i x (K r)
  | _ => none
def zsa (L : zL) (i : Nat) (st : List Value) (K : List Value → zL → zR) : zR := match st with
  | .ref x :: r => zst L i (.ref x) (K r)
  | _ => none
def zstore (ins : Instr) (st : List Value) (L : zL) (K : List Value → zL → zR) : zR := match ins with
  | .istore_n k => zsi L (k : Nat) st K
  | .istore i => zsi L i st K
  | .lstore_n k => zsl L (k : Nat) st K
  | .lstore i => zsl L i st K
  | .astore_n k => zsa L (k : Nat) st K
  | .astore i => zsa L i st K
  | .iinc i n => match L[i]? with
    | some (some (.int x)) => zst L i (.int (x + Int32.ofInt n)) (K st)
    | _ => none
  | _ => none
/-- the same where no long stands among the locals -/
def zsu (L : zL) (i : Nat) (v : Value) (K : zL → zR) : zR := bif Nat.blt i L.length then K (L.set i (some v)) else none
def zui (L : zL) (i : Nat) (st : List Value) (K : List Value → zL → zR) : zR := match st with
  | .int x :: r => zsu L i (.int x) (K r)
  | _ => none
def zua (L : zL) (i : Nat) (st : List Value) (K : List Value → zL → zR) : zR := match st with
  | .ref x :: r => zsu L i (.ref x) (K r)
  | _ => none
def zstoreN (ins : Instr) (st : List Value) (L : zL) (K : List Value → zL → zR) : zR := match ins with
  | .istore_n k => zui L (k : Nat) st K
  | .istore i => zui L i st K
  | .astore_n k => zua L (k : Nat) st K
  | .astore i => zua L i st K
  | .iinc i n => match L[i]? with
    | some (some (.int x)) => zsu L i (.int (x + Int32.ofInt n)) (K st)
    | _ => none
  | _ => none
def zc1 (c : ClassFile.Cond) (x : Int32) (t f : zR) : zR := match c with
  | .eq => if x = 0 then t else f
  | .ne => if x = 0 then f else t
  | .lt => if x < 0 then t else f
  | .ge => if 0 ≤ x then t else f
  | .gt => if 0 < x then t else f
  | .le => if x ≤ 0 then t else f
def zc2 (c : ClassFile.Cond) (x y : Int32) (t f : zR) : zR := match c with
  | .eq => if x = y then t else f
  | .ne => if x = y then f else t
  | .lt => if x < y then t else f
  | .ge => if y ≤ x then t else f
  | .gt => if y < x then t else f
  | .le => if x ≤ y then t else f
def zbr (ins : Instr) (st : List Value) (t f : List Value → zR) : zR := match ins with
  | .goto _ => t st
  | .ifCond c _ => match st with
    | .int x :: r => zc1 c x (t r) (f r)
    | _ => none
  | .if_icmp c _ => match st with
    | .int y :: .int x :: r => zc2 c x y (t r) (f r)
    | _ => none
  | _ => none
def zsw (ins : Instr) (pc : Nat) (st : List Value) (K : Nat → List Value → zR) : zR := match ins with
  | .tableswitch dflt lo hi offs => match st with
    | .int x :: r => if x.toInt < lo ∨ hi < x.toInt then (if 0 ≤ (pc : Int) + dflt then K ((pc : Int) + dflt).toNat r else none)
      else match offs[(x.toInt - lo).toNat]? with
        | some off => if 0 ≤ (pc : Int) + off then K ((pc : Int) + off).toNat r else none
        | none => none
    | _ => none
  | _ => none
/-- a field, by the number of the class and of the field; of a text (class 100) field 0 is its bytes, 1 its coder -/
def zgf (E : zX) (h : zH) (v : Value) (ci k : Nat) (K : Value → zR) : zR := match v with
  | .ref a => match h.1[a]? with
    | some (.inr o) => bif Nat.beq o.1 ci then (match o.2[k]? with
      | some w => K w
      | none => none) else none
    | _ => none
  | .float i => match E[i.toNat]? with
    | some (.inl j) => bif Nat.beq ci 100 then (bif Nat.beq k 0 then K (.float j) else (bif Nat.beq k 1 then K (.int 0) else none)) else none
    | _ => none
  | _ => none
/-- may a value be put into a field of this kind: 0 int, 1 long, 2 boolean, 3 reference -/
def zfw (t : Nat) (v : Value) : Bool := match t, v with
  | 0, .int _ => true
  | 1, .long _ => true
  | 2, .int x => x == 0 || x == 1
  | 3, .ref _ => true
  | _, _ => false
def zpf (h : zH) (st : List Value) (ci k t : Nat) (K : List Value → zH → zR) : zR := match st with
  | v :: .ref a :: r => match h.1[a]? with
    | some (.inr o) => bif Nat.beq o.1 ci && Nat.blt k o.2.length && zfw t v then K r (h.1.set a (.inr (o.1, o.2.set k v)), h.2) else none
    | _ => none
  | _ => none
def zald (ins : Instr) (E : zX) (h : zH) (st : List Value) (K : List Value → zR) : zR := match ins, st with
  | .iaload, .int i :: .ref a :: r => match h.1[a]? with
    | some (.inl (0, n, .inl f)) => if i < 0 ∨ n ≤ i.toNatClampNeg then none else K (.int (f i.toNatClampNeg) :: r)
    | _ => none
  | .iaload, .int i :: .float a :: r => match E[a.toNat]? with
    | some (.inr (0, n, f)) => if i < 0 ∨ n ≤ i.toNatClampNeg then none else K (.int (f i.toNatClampNeg) :: r)
    | _ => none
  | .laload, .int i :: .ref a :: r => match h.1[a]? with
    | some (.inl (1, n, .inr (.inl f))) => if i < 0 ∨ n ≤ i.toNatClampNeg then none else K (.long (f i.toNatClampNeg) :: r)
    | _ => none
  | .baload, .int i :: .ref a :: r => match h.1[a]? with
    | some (.inl (2, n, .inl f)) => if i < 0 ∨ n ≤ i.toNatClampNeg then none else K (.int (f i.toNatClampNeg) :: r)
    | _ => none
  | .baload, .int i :: .float a :: r => match E[a.toNat]? with
    | some (.inr (3, n, f)) => if i < 0 ∨ n ≤ i.toNatClampNeg then none else K (.int (f i.toNatClampNeg) :: r)
    | _ => none
  | _, _ => none
def zast (ins : Instr) (h : zH) (st : List Value) (K : List Value → zH → zR) : zR := match ins, st with
  | .iastore, .int x :: .int i :: .ref a :: r => match h.1[a]? with
    | some (.inl (0, n, .inl f)) => if i < 0 ∨ n ≤ i.toNatClampNeg then none else K r (h.1.set a (.inl (0, n, .inl (upd f i.toNatClampNeg x))), h.2)
    | _ => none
  | .lastore, .long x :: .int i :: .ref a :: r => match h.1[a]? with
    | some (.inl (1, n, .inr (.inl f))) => if i < 0 ∨ n ≤ i.toNatClampNeg then none else K r (h.1.set a (.inl (1, n, .inr (.inl (vp_updL f i.toNatClampNeg x)))), h.2)
    | _ => none
  | .bastore, .int x :: .int i :: .ref a :: r => match h.1[a]? with
    | some (.inl (2, n, .inl f)) => if i < 0 ∨ n ≤ i.toNatClampNeg then none else (bif x == 0 || x == 1 then K r (h.1.set a (.inl (2, n, .inl (upd f i.toNatClampNeg x))), h.2) else none)
    | _ => none
  | _, _ => none
def zlenA (E : zX) (h : zH) (st : List Value) (K : List Value → zR) : zR := match st with
  | .ref a :: r => match h.1[a]? with
    | some (.inl x) => bif Nat.blt x.1 3 then K (.int (Int32.ofNat x.2.1) :: r) else none
    | _ => none
  | .float a :: r => match E[a.toNat]? with
    | some (.inr x) => bif Nat.beq x.1 0 || Nat.beq x.1 3 then K (.int (Int32.ofNat x.2.1) :: r) else none
    | _ => none
  | _ => none
/-- a new array of this kind -/
def znew (t : ArrayType) (N : Nat) : Option zC := match t with
  | .int => some (.inl (0, N, .inl (fun _ => 0)))
  | .long => some (.inl (1, N, .inr (.inl (fun _ => 0))))
  | .boolean => some (.inl (2, N, .inl (fun _ => 0)))
  | _ => none
def znewa (ins : Instr) (h : zH) (st : List Value) (K : List Value → zH → zR) : zR := match ins, st with
  | .newarray t, .int n :: r => if n < 0 ∨ 100000 < n.toNatClampNeg then none else match znew t n.toNatClampNeg with
    | some c => bif Nat.beq h.2 0 then K (.ref h.1.length :: r) (h.1 ++ [c], h.2) else none
    | none => none
  | _, _ => none
/-- System.arraycopy of ints -/
def zcp (h : zH) (st : List Value) (K : List Value → zH → zR) : zR := match st with
  | .int n :: .int dp :: .ref a :: .int sp :: .ref a0 :: r => match h.1[a0]?, h.1[a]? with
    | some (.inl (0, n0, .inl f)), some (.inl (0, n1, .inl g)) => if (sp < 0 ∨ dp < 0 ∨ n < 0) ∨ (n0 < sp.toNatClampNeg + n.toNatClampNeg ∨ n1 < dp.toNatClampNeg + n.toNatClampNeg) then none
      else K r (h.1.set a (.inl (0, n1, .inl (va_cpy f g sp.toNatClampNeg dp.toNatClampNeg n.toNatClampNeg))), h.2)
    | _, _ => none
  | _ => none
/-- the receiver of a call: 0 none, 99 any object, 101 a text, else the number of its class and one -/
def zrecv (E : zX) (h : zH) (rc : Nat) (v : Option Value) : Bool := bif Nat.beq rc 0 then true else match v with
  | some (.ref a) => bif Nat.beq rc 99 then true else match h.1[a]? with
    | some (.inr o) => Nat.beq (o.1 + 1) rc
    | _ => false
  | some (.float i) => Nat.beq rc 101 && (match E[i.toNat]? with
    | some (.inl _) => true
    | _ => false)
  | _ => false
/-- what is returned fits what is promised -/
def zfr (t : Option FieldType) (x : Int32) : Bool := match t with
  | some .int => true
  | some .boolean => x == 0 || x == 1
  | some .byte => x.toInt8.toInt32 == x
  | some .char => x.toUInt32.toUInt16.toUInt32.toInt32 == x
  | _ => false
def zret (ins : Instr) (t : Option FieldType) (st : List Value) (h : zH) : zR := match ins, st with
  | .ireturn, [.int x] => bif zfr t x then some (.inl (some (.int x)), h) else none
  | .lreturn, [.long x] => match t with
    | some .long => some (.inl (some (.long x)), h)
    | _ => none
  | .areturn, [.ref a] => match t with
    | some (.object _) => some (.inl (some (.ref a)), h)
    | _ => none
  | .return_, [] => match t with
    | none => some (.inl none, h)
    | _ => none
  | _, _ => none
def zhnd : List (Nat × Nat × Nat × Nat) → Nat → Nat → Option (Nat × Nat)
  | [], _, _ => none
  | q :: r, pc, x => bif Nat.beq q.1 pc && Nat.beq q.2.1 x then some q.2.2 else zhnd r pc x
/-- the locals at a method's entry -/
def zent (maxL : Nat) (As : List Value) : zL := As.map some ++ List.replicate (maxL - As.length) none
def zcat (st : List Value) : Nat := (st.map (fun v => v.category)).sum
/-- one instruction of a run, Z being what comes behind it: P the methods, Cd the fields of new objects, E what lies outside -/
def zstep (P : Nat → Option zM) (Cd : List (List Value)) (E : zX) (Z : Nat → Nat → Nat → zL → List Value → zH → zR) (d M pc : Nat) (L : zL) (st : List Value) (h : zH) : zR := match P M with
    | none => none
    | some mt => match zat mt.1 pc with
      | none => none
      | some (kd, ins, r1, r2, r3) => match kd with
        | 0 => zpure ins st (fun st1 => Z d M (pc + zlen ins) L st1 h)
        | 1 => zload ins L (fun v => Z d M (pc + zlen ins) L (v :: st) h)
        | 2 => zstore ins st L (fun st1 L1 => Z d M (pc + zlen ins) L1 st1 h)
        | 3 => zbr ins st (fun st1 => Z d M r1 L st1 h) (fun st1 => Z d M (pc + zlen ins) L st1 h)
        | 4 => zsw ins pc st (fun t st1 => Z d M t L st1 h)
        | 5 => match st with
          | v :: r => zgf E h v r1 r2 (fun w => Z d M (pc + 3) L (w :: r) h)
          | _ => none
        | 6 => zpf h st r1 r2 r3 (fun st1 h1 => Z d M (pc + 3) L st1 h1)
        | 7 => zald ins E h st (fun st1 => Z d M (pc + 1) L st1 h)
        | 8 => zast ins h st (fun st1 h1 => Z d M (pc + 1) L st1 h1)
        | 9 => zlenA E h st (fun st1 => Z d M (pc + 1) L st1 h)
        | 10 => match Cd[r1]? with
          | some fs => bif Nat.beq h.2 0 then Z d M (pc + 3) L (.ref h.1.length :: st) (h.1 ++ [.inr (r1, fs)], h.2) else none
          | none => none
        | 11 => znewa ins h st (fun st1 h1 => Z d M (pc + 2) L st1 h1)
        | 12 => match d with
          | 0 => none
          | d1 + 1 => match P r1 with
            | none => none
            | some ct => bif Nat.ble r2 st.length && Nat.ble r2 ct.2.1 && Nat.beq (zcat (st.take r2)) r2 && Nat.ble (zcat (st.drop r2)) 8 && zrecv E h r3 ((st.take r2).reverse).head? then
                (match Z d1 r1 0 (zent ct.2.1 (st.take r2).reverse) [] h with
                | none => none
                | some (.inl v, h1) => Z (d1 + 1) M (pc + 3) L (v.toList ++ st.drop r2) h1
                | some (.inr x, h1) => match zhnd mt.2.2.2 pc x with
                  | none => match mt.2.2.2 with
                    | [] => some (.inr x, h1)
                    | _ => none
                  | some (lo, tg) => zst L lo .null (fun _ => Z (d1 + 1) M tg (L.set lo none) [] h1))
                else none
        | 13 => zret ins mt.2.2.1 st h
        | 14 => match st with
          | [] => bif Nat.ble 8 d then some (.inr r1, (h.1, h.2 + 1)) else none
          | _ => none
        | 15 => bif Nat.ble 1 d && Nat.ble (zcat st) 16 then zcp h st (fun st1 h1 => Z d M (pc + 3) L st1 h1) else none
        | 16 => Z d M (pc + zlen ins) L (.int (Int32.ofNat r1) :: st) h
        | 17 => Z d M (pc + zlen ins) L (.float (UInt32.ofNat r1) :: st) h
        | 18 => bif Nat.beq r1 0 then Z d M (pc + 3) L (.int 1 :: st) h else Z d M (pc + 3) L (.float (UInt32.ofNat r2) :: st) h
        | 19 => match st with
          | .ref _ :: r => bif Nat.ble 1 d && Nat.ble (zcat r) 8 then Z d M (pc + 3) L r h else none
          | _ => none
        | 20 => Z d M (pc + 3) L (.long (Int64.ofNat r1) :: st) h
        | 21 => match st with
          | .int y :: .int x :: r => bif Nat.ble 1 d && Nat.ble (zcat r) 8 then (bif Nat.beq r1 0 then Z d M (pc + 3) L (.int (if y < x then y else x) :: r) h else Z d M (pc + 3) L (.int (if x < y then y else x) :: r) h) else none
          | _ => none
        | 22 => zstoreN ins st L (fun st1 L1 => Z d M (pc + zlen ins) L1 st1 h)
        | _ => none
/-- the run -/
def zrun (P : Nat → Option zM) (Cd : List (List Value)) (E : zX) : Nat → Nat → Nat → Nat → zL → List Value → zH → zR
  | 0 => fun _ _ _ _ _ _ => none
  | n + 1 => zstep P Cd E (zrun P Cd E n)
