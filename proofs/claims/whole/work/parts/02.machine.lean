/-! AN ABSTRACT MACHINE for this claim's bytecode: memory is a list of shapes (a class or array tag, a length), int contents and references by place; a step is a predicate transformer. Soundness over the machine itself stands in a later part. -/
abbrev zI : Type := Nat → Nat → Int32
abbrev zR : Type := Nat → Nat → Option Nat
abbrev zM : Type := List (Nat × Nat) × zI × zR
abbrev zL : Type := List (Nat × Value)
/-- an entry of a method's code: its place, the instruction, two operands resolved, a constant, a list -/
abbrev zE : Type := Nat × Instr × Nat × Nat × Int32 × List Nat
def up2 {α : Type} (f : Nat → Nat → α) (k j : Nat) (v : α) : Nat → Nat → α := fun a b => if a = k then (if b = j then v else f a b) else f a b
def zero2 {α : Type} (f : Nat → Nat → α) (k n : Nat) (z : α) : Nat → Nat → α := fun a b => if k ≤ a ∧ a < k + n then z else f a b
def row2 {α : Type} (f : Nat → Nat → α) (k : Nat) (g : Nat → α) : Nat → Nat → α := fun a b => if a = k then g b else f a b
def zG (ls : zL) (k : Nat) : Option Value := (ls.find? (fun q => q.1 == k)).map (fun q => q.2)
/-- a local's new value, in its place -/
def zPut (ls : zL) (i : Nat) (v : Value) : zL := bif ls.any (fun q => q.1 == i) then ls.map (fun q => bif q.1 == i then (i, v) else q) else ls ++ [(i, v)]
/-- a long whose second half is written over goes -/
def zCut (ls : zL) (i : Nat) : zL := match i with
  | 0 => ls
  | j + 1 => match zG ls j with
    | some v => bif v.category == 2 then ls.filter (fun q => !(q.1 == j)) else ls
    | none => ls
def zS1 (ls : zL) (i : Nat) (v : Value) : zL := zPut (zCut ls i) i v
def zS2 (ls : zL) (i : Nat) (v : Value) : zL := zPut ((zCut ls i).filter (fun q => !(q.1 == i + 1))) i v
/-- which of the classes (by their numbers) another one is under -/
def zSub (ci y : Nat) : Bool := ci == y || (y == 3 && (ci == 0 || ci == 2 || ci == 4 || ci == 5 || ci == 10)) || (y == 2 && ci == 10) || (y == 4 && ci == 5)
def zLc (x y : Nat) : Int64 := if y = 1 then -(Int64.ofNat x) else Int64.ofNat x
/-- the bytes of the two String constants -/
def zStr : Nat → List Nat
  | 0 => [119, 111, 114, 116, 104, 32, 116, 111, 108, 100, 32, 59, 32, 99, 111, 115, 116, 115, 32, 102, 97, 114, 32, 59, 32, 115, 116, 111, 114, 109, 32, 104, 101, 105, 103, 104, 116, 32, 42, 32, 50, 32, 59]
  | _ => [119, 111, 114, 116, 104, 32, 99, 111, 115, 116, 115, 32, 115, 116, 111, 114, 109, 32, 111, 114, 32, 97, 110, 100, 32, 110, 111, 116, 32, 116, 111, 108, 100, 32, 104, 101, 105, 103, 104, 116, 32, 109, 111, 114, 101, 32, 102, 97, 114, 32, 116, 105, 100, 101, 32, 110, 117, 109, 98, 101, 114, 32]
/-- the chosen method of an island's class -/
def zSw {β : Type} (a : Int32) (K : β → Prop) (d : β) : Int32 → List β → Prop
  | _, [] => K d
  | c, t :: ts => (a = c → K t) ∧ (¬ a = c → zSw a K d (c + 1) ts)
abbrev zOr : Type := Nat → List Value → zM → Option Value → zM → Prop
def zCall (R : zOr) (x : Nat) (as : List Value) (μ : zM) (K : List Value → zM → Prop) : Prop := ∃ v μ', R x as μ v μ' ∧ K v.toList μ'
def zBin : Instr → Option (Int32 → Int32 → Int32)
  | .iadd => some (fun a b => a + b)
  | .isub => some (fun a b => a - b)
  | .imul => some (fun a b => a * b)
  | .iand => some (fun a b => a &&& b)
  | .ior => some (fun a b => a ||| b)
  | .ixor => some (fun a b => a ^^^ b)
  | .ishl => some (fun a b => a <<< (b &&& 31))
  | .ishr => some (fun a b => a >>> (b &&& 31))
  | .iushr => some (fun a b => (a.toUInt32 >>> (b.toUInt32 &&& Int32.toUInt32 31)).toInt32)
  | _ => none
def zStep (dyn : Nat → Nat → Nat) (R : zOr) (e : zE) (ip : Nat) (ls : zL) (st : List Value) (μ : zM) (K : Nat → zL → List Value → zM → Prop) (Z : Option Value → zM → Prop) : Prop :=
  match e with
  | (_, ins, x, y, w, t) =>
  match ins with
  | .aconst_null => K (ip + 1) ls (.null :: st) μ
  | .iconst _ => K (ip + 1) ls (.int w :: st) μ
  | .bipush _ => K (ip + 1) ls (.int w :: st) μ
  | .sipush _ => K (ip + 1) ls (.int w :: st) μ
  | .ldc _ => if y = 0 then K (ip + 1) ls (.int w :: st) μ else K (ip + 1) ls (.ref x :: st) μ
  | .ldc_w _ => K (ip + 1) ls (.int w :: st) μ
  | .lconst _ => K (ip + 1) ls (.long (zLc x y) :: st) μ
  | .ldc2_w _ => K (ip + 1) ls (.long (zLc x y) :: st) μ
  | .iload_n _ => match zG ls x with | some (.int a) => K (ip + 1) ls (.int a :: st) μ | _ => False
  | .iload _ => match zG ls x with | some (.int a) => K (ip + 1) ls (.int a :: st) μ | _ => False
  | .lload_n _ => match zG ls x with | some (.long a) => K (ip + 1) ls (.long a :: st) μ | _ => False
  | .lload _ => match zG ls x with | some (.long a) => K (ip + 1) ls (.long a :: st) μ | _ => False
  | .aload_n _ => match zG ls x with | some (.ref a) => K (ip + 1) ls (.ref a :: st) μ | some .null => K (ip + 1) ls (.null :: st) μ | _ => False
  | .aload _ => match zG ls x with | some (.ref a) => K (ip + 1) ls (.ref a :: st) μ | some .null => K (ip + 1) ls (.null :: st) μ | _ => False
  | .istore_n _ => match st with | .int a :: st => K (ip + 1) (zS1 ls x (.int a)) st μ | _ => False
  | .istore _ => match st with | .int a :: st => K (ip + 1) (zS1 ls x (.int a)) st μ | _ => False
  | .lstore_n _ => match st with | .long a :: st => K (ip + 1) (zS2 ls x (.long a)) st μ | _ => False
  | .lstore _ => match st with | .long a :: st => K (ip + 1) (zS2 ls x (.long a)) st μ | _ => False
  | .astore_n _ => match st with | .ref a :: st => K (ip + 1) (zS1 ls x (.ref a)) st μ | .null :: st => K (ip + 1) (zS1 ls x .null) st μ | _ => False
  | .astore _ => match st with | .ref a :: st => K (ip + 1) (zS1 ls x (.ref a)) st μ | .null :: st => K (ip + 1) (zS1 ls x .null) st μ | _ => False
  | .iinc _ _ => match zG ls x with | some (.int a) => K (ip + 1) (zS1 ls x (.int (a + w))) st μ | _ => False
  | .ineg => match st with | .int a :: st => K (ip + 1) ls (.int (-a) :: st) μ | _ => False
  | .idiv => match st with | .int b :: .int a :: st => ¬ b = 0 ∧ K (ip + 1) ls (.int (a / b) :: st) μ | _ => False
  | .irem => match st with | .int b :: .int a :: st => ¬ b = 0 ∧ K (ip + 1) ls (.int (a - a / b * b) :: st) μ | _ => False
  | .i2l => match st with | .int a :: st => K (ip + 1) ls (.long a.toInt64 :: st) μ | _ => False
  | .i2b => match st with | .int a :: st => K (ip + 1) ls (.int a.toInt8.toInt32 :: st) μ | _ => False
  | .i2s => match st with | .int a :: st => K (ip + 1) ls (.int a.toInt16.toInt32 :: st) μ | _ => False
  | .ladd => match st with | .long b :: .long a :: st => K (ip + 1) ls (.long (a + b) :: st) μ | _ => False
  | .lmul => match st with | .long b :: .long a :: st => K (ip + 1) ls (.long (a * b) :: st) μ | _ => False
  | .ldiv => match st with | .long b :: .long a :: st => ¬ b = 0 ∧ K (ip + 1) ls (.long (a / b) :: st) μ | _ => False
  | .lrem => match st with | .long b :: .long a :: st => ¬ b = 0 ∧ K (ip + 1) ls (.long (a - a / b * b) :: st) μ | _ => False
  | .lcmp => match st with | .long b :: .long a :: st => K (ip + 1) ls (.int (lg_cmp a b) :: st) μ | _ => False
  | .dup => match st with | .int a :: st => K (ip + 1) ls (.int a :: .int a :: st) μ | .ref a :: st => K (ip + 1) ls (.ref a :: .ref a :: st) μ | _ => False
  | .dup2 => match st with | .int b :: .ref a :: st => K (ip + 1) ls (.int b :: .ref a :: .int b :: .ref a :: st) μ | _ => False
  | .pop => match st with | .int _ :: st => K (ip + 1) ls st μ | .ref _ :: st => K (ip + 1) ls st μ | .null :: st => K (ip + 1) ls st μ | _ => False
  | .goto _ => K x ls st μ
  | .ifCond c _ => match st with
    | .int a :: st => (match c with
      | .eq => (a = 0 → K x ls st μ) ∧ (¬ a = 0 → K (ip + 1) ls st μ)
      | .ne => (¬ a = 0 → K x ls st μ) ∧ (a = 0 → K (ip + 1) ls st μ)
      | .lt => (a < 0 → K x ls st μ) ∧ (¬ a < 0 → K (ip + 1) ls st μ)
      | .ge => (0 ≤ a → K x ls st μ) ∧ (¬ 0 ≤ a → K (ip + 1) ls st μ)
      | .gt => (0 < a → K x ls st μ) ∧ (¬ 0 < a → K (ip + 1) ls st μ)
      | .le => (a ≤ 0 → K x ls st μ) ∧ (¬ a ≤ 0 → K (ip + 1) ls st μ))
    | _ => False
  | .if_icmp c _ => match st with
    | .int b :: .int a :: st => (match c with
      | .eq => (a = b → K x ls st μ) ∧ (¬ a = b → K (ip + 1) ls st μ)
      | .ne => (¬ a = b → K x ls st μ) ∧ (a = b → K (ip + 1) ls st μ)
      | .lt => (a < b → K x ls st μ) ∧ (¬ a < b → K (ip + 1) ls st μ)
      | .ge => (b ≤ a → K x ls st μ) ∧ (¬ b ≤ a → K (ip + 1) ls st μ)
      | .gt => (b < a → K x ls st μ) ∧ (¬ b < a → K (ip + 1) ls st μ)
      | .le => (a ≤ b → K x ls st μ) ∧ (¬ a ≤ b → K (ip + 1) ls st μ))
    | _ => False
  | .ifnull _ => match st with | .ref _ :: st => K (ip + 1) ls st μ | .null :: st => K x ls st μ | _ => False
  | .ifnonnull _ => match st with | .ref _ :: st => K x ls st μ | .null :: st => K (ip + 1) ls st μ | _ => False
  | .tableswitch _ _ _ _ => match st with | .int a :: st => zSw a (fun k => K k ls st μ) x w t | _ => False
  | .getfield _ => match st with
    | .ref r :: st => (μ.1[r]?).elim False fun s => bif zSub s.1 y then (match t with
        | [] => K (ip + 1) ls (.int (μ.2.1 r x) :: st) μ
        | _ => (μ.2.2 r x).elim (K (ip + 1) ls (.null :: st) μ) (fun q => K (ip + 1) ls (.ref q :: st) μ)) else False
    | _ => False
  | .putfield _ => match st with
    | .int a :: .ref r :: st => (μ.1[r]?).elim False fun s => bif zSub s.1 y then (match t with
        | [] => K (ip + 1) ls st (μ.1, up2 μ.2.1 r x a, μ.2.2)
        | [2] => (a = 0 ∨ a = 1) ∧ K (ip + 1) ls st (μ.1, up2 μ.2.1 r x a, μ.2.2)
        | _ => False) else False
    | .ref q :: .ref r :: st => (μ.1[q]?).elim False fun _ => (μ.1[r]?).elim False fun s => bif zSub s.1 y then (match t with
        | [0] => K (ip + 1) ls st (μ.1, μ.2.1, up2 μ.2.2 r x (some q))
        | _ => False) else False
    | _ => False
  | .iaload => match st with
    | .int i :: .ref a :: st => (μ.1[a]?).elim (if a = 2000000 then vp_in i (μ.2.1 2000001 0).toNatClampNeg ∧ K (ip + 1) ls (.int (μ.2.1 2000000 i.toNatClampNeg) :: st) μ else False)
        fun s => bif s.1 == 20 then vp_in i s.2 ∧ K (ip + 1) ls (.int (μ.2.1 a i.toNatClampNeg) :: st) μ else False
    | _ => False
  | .iastore => match st with
    | .int v :: .int i :: .ref a :: st => (μ.1[a]?).elim False fun s => bif s.1 == 20 then vp_in i s.2 ∧ K (ip + 1) ls st (μ.1, up2 μ.2.1 a i.toNatClampNeg v, μ.2.2) else False
    | _ => False
  | .baload => match st with
    | .int i :: .ref a :: st => (μ.1[a]?).elim False fun s => bif s.1 == 21 then vp_in i s.2 ∧ K (ip + 1) ls (.int (μ.2.1 a i.toNatClampNeg) :: st) μ else False
    | _ => False
  | .bastore => match st with
    | .int v :: .int i :: .ref a :: st => (μ.1[a]?).elim False fun s => bif s.1 == 21 then vp_in i s.2 ∧ (v = 0 ∨ v = 1) ∧ K (ip + 1) ls st (μ.1, up2 μ.2.1 a i.toNatClampNeg v, μ.2.2) else False
    | _ => False
  | .aaload => match st with
    | .int i :: .ref a :: st => (μ.1[a]?).elim False fun s => bif 22 ≤ s.1 && s.1 ≤ 25 then vp_in i s.2 ∧ (μ.2.2 a i.toNatClampNeg).elim (K (ip + 1) ls (.null :: st) μ) (fun q => K (ip + 1) ls (.ref q :: st) μ) else False
    | _ => False
  | .aastore => match st with
    | .ref q :: .int i :: .ref a :: st => (μ.1[a]?).elim False fun s => (μ.1[q]?).elim False fun z => bif s.1 == y && zSub z.1 x then vp_in i s.2 ∧ K (ip + 1) ls st (μ.1, μ.2.1, up2 μ.2.2 a i.toNatClampNeg (some q)) else False
    | _ => False
  | .arraylength => match st with
    | .ref a :: st => (μ.1[a]?).elim (if a = 2000000 then K (ip + 1) ls (.int (μ.2.1 2000001 0) :: st) μ else False) fun s => bif 20 ≤ s.1 && s.1 ≤ 25 then K (ip + 1) ls (.int (Int32.ofNat s.2) :: st) μ else False
    | _ => False
  | .newarray _ => match st with
    | .int n :: st => ¬ n < 0 ∧ n.toNatClampNeg ≤ 100000 ∧ μ.1.length < 900000 ∧ K (ip + 1) ls (.ref μ.1.length :: st) (μ.1 ++ [(x, n.toNatClampNeg)], zero2 μ.2.1 μ.1.length 1 0, zero2 μ.2.2 μ.1.length 1 none)
    | _ => False
  | .anewarray _ => match st with
    | .int n :: st => ¬ n < 0 ∧ n.toNatClampNeg ≤ 100000 ∧ μ.1.length < 900000 ∧ K (ip + 1) ls (.ref μ.1.length :: st) (μ.1 ++ [(x, n.toNatClampNeg)], zero2 μ.2.1 μ.1.length 1 0, zero2 μ.2.2 μ.1.length 1 none)
    | _ => False
  | .multianewarray _ _ => match st with
    | .int k :: .int n :: st => ¬ n < 0 ∧ ¬ k < 0 ∧ n.toNatClampNeg ≤ 1000 ∧ k.toNatClampNeg ≤ 1000 ∧ μ.1.length < 900000 ∧ K (ip + 1) ls (.ref μ.1.length :: st) (μ.1 ++ (22, n.toNatClampNeg) :: List.replicate n.toNatClampNeg (20, k.toNatClampNeg), zero2 μ.2.1 μ.1.length (n.toNatClampNeg + 1) 0, row2 (zero2 μ.2.2 μ.1.length (n.toNatClampNeg + 1) none) μ.1.length (fun j => if j < n.toNatClampNeg then some (μ.1.length + 1 + j) else none))
    | _ => False
  | .new _ => μ.1.length < 900000 ∧ K (ip + 1) ls (.ref μ.1.length :: st) (μ.1 ++ [(x, y)], zero2 μ.2.1 μ.1.length 1 0, zero2 μ.2.2 μ.1.length 1 none)
  | .instanceof _ => match st with
    | .ref r :: st => (μ.1[r]?).elim False fun s => bif zSub s.1 3 then K (ip + 1) ls (.int (bif zSub s.1 x then 1 else 0) :: st) μ else False
    | _ => False
  | .invokestatic _ => match t with
    | [] => bif Nat.ble y st.length && Nat.ble (st.drop y).length 4 then zCall R x (st.take y).reverse μ (fun v μ => K (ip + 1) ls (v ++ st.drop y) μ) else False
    | [1] => match st with | .int b :: .int a :: st => bif Nat.ble st.length 4 then K (ip + 1) ls (.int (if b < a then b else a) :: st) μ else False | _ => False
    | [2] => match st with | .int b :: .int a :: st => bif Nat.ble st.length 4 then K (ip + 1) ls (.int (if a < b then b else a) :: st) μ else False | _ => False
    | [3] => match st with | .int a :: st => bif Nat.ble st.length 4 then K (ip + 1) ls (.int (if 0 ≤ a then a else 0 - a) :: st) μ else False | _ => False
    | [4] => match st with
      | .int n :: .int dp :: .ref b :: .int sp :: .ref a :: st => (μ.1[a]?).elim False fun s => (μ.1[b]?).elim False fun z => bif s.1 == 20 && z.1 == 20 && Nat.ble st.length 4 then
          ¬ sp < 0 ∧ ¬ dp < 0 ∧ ¬ n < 0 ∧ sp.toNatClampNeg + n.toNatClampNeg ≤ s.2 ∧ dp.toNatClampNeg + n.toNatClampNeg ≤ z.2 ∧ K (ip + 1) ls st (μ.1, row2 μ.2.1 b (va_cpy (μ.2.1 a) (μ.2.1 b) sp.toNatClampNeg dp.toNatClampNeg n.toNatClampNeg), μ.2.2) else False
      | _ => False
    | _ => False
  | .invokespecial _ => match t with
    | [] => match st with | .ref _ :: st => bif Nat.ble st.length 4 then K (ip + 1) ls st μ else False | _ => False
    | _ => match st.drop y with
      | .ref r :: rest => (μ.1[r]?).elim False fun s => bif zSub s.1 (t.headD 0) && Nat.ble rest.length 4 then zCall R x (.ref r :: (st.take y).reverse) μ (fun v μ => K (ip + 1) ls (v ++ rest) μ) else False
      | _ => False
  | .invokevirtual _ => match t with
    | [] => match x, st with
      | 0, .ref a :: st => if (a = 1000000 ∨ a = 1000001) ∧ st.length ≤ 4 then K (ip + 1) ls (.int (Int32.ofNat (zStr (a - 1000000)).length) :: st) μ else False
      | 1, .int i :: .ref a :: st => if (a = 1000000 ∨ a = 1000001) ∧ st.length ≤ 4 then vp_in i (zStr (a - 1000000)).length ∧ K (ip + 1) ls (.int (Int32.ofNat ((zStr (a - 1000000)).getD i.toNatClampNeg 0)) :: st) μ else False
      | _, _ => False
    | [c] => match st.drop y with
      | .ref r :: rest => (μ.1[r]?).elim False fun s => bif s.1 == c && Nat.ble rest.length 4 then zCall R x (.ref r :: (st.take y).reverse) μ (fun v μ => K (ip + 1) ls (v ++ rest) μ) else False
      | _ => False
    | _ => match st.drop y with
      | .ref r :: rest => (μ.1[r]?).elim False fun s => bif zSub s.1 3 && Nat.ble rest.length 4 then zCall R (dyn x s.1) (.ref r :: (st.take y).reverse) μ (fun v μ => K (ip + 1) ls (v ++ rest) μ) else False
      | _ => False
  | .return_ => match st with | [] => Z none μ | _ => False
  | .ireturn => match st with | [.int a] => (match t with | [] => Z (some (.int a)) μ | _ => (a = 0 ∨ a = 1) ∧ Z (some (.int a)) μ) | _ => False
  | .lreturn => match st with | [.long a] => Z (some (.long a)) μ | _ => False
  | .areturn => match st with | [.ref a] => Z (some (.ref a)) μ | [.null] => Z (some .null) μ | _ => False
  | ins => match zBin ins, st with
    | some f, .int b :: .int a :: st => K (ip + 1) ls (.int (f a b) :: st) μ
    | _, _ => False
def zRun (dyn : Nat → Nat → Nat) (R : zOr) (cd : List zE) : Nat → Nat → zL → List Value → zM → (Option Value → zM → Prop) → Prop
  | 0, _, _, _, _, _ => False
  | n + 1, ip, ls, st, μ, Z => (cd[ip]?).elim False fun e => zStep dyn R e ip ls st μ (fun ip ls st μ => zRun dyn R cd n ip ls st μ Z) Z
