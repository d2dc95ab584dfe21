/-! A SMALL MACHINE over numbered cells. A value is a number or a cell's number; a heap is a function of cell and place; code is lists of instructions that a check holds against the bytes. What it answers is what the machine answers (part 05). -/
abbrev mvV : Type := Int32 ⊕ Nat
abbrev mvH : Type := Nat → Nat → Int32
/-- an instruction: itself, the next place, three numbers (by kind), a constant, a switch's rows -/
abbrev mvE : Type := Instr × Nat × Nat × Nat × Nat × Int32 × List (Int32 × Nat)
abbrev mvL : Type := List (Option mvV)
abbrev mvC : Type := Nat → List mvV → mvH → (Option mvV → mvH → Prop) → Prop
def mvget {α : Type} : List α → Nat → Option α
  | [], _ => none
  | x :: _, 0 => some x
  | _ :: xs, n + 1 => mvget xs n
def mvset {α : Type} : List α → Nat → α → (List α → Prop) → Prop
  | [], _, _, _ => False
  | _ :: xs, 0, v, k => k (v :: xs)
  | x :: xs, n + 1, v, k => mvset xs n v (fun ys => k (x :: ys))
def mvpop : Nat → List mvV → List mvV → (List mvV → List mvV → Prop) → Prop
  | 0, st, acc, k => k acc st
  | n + 1, v :: st, acc, k => mvpop n st (v :: acc) k
  | _ + 1, [], _, _ => False
def hset (h : mvH) (q j : Nat) (v : Int32) : mvH := fun q' => if q' = q then upd (h q) j v else h q'
def hcpy (h : mvH) (q0 sp q1 dp n : Nat) : mvH := fun q' => if q' = q1 then va_cpy (h q0) (h q1) sp dp n else h q'
def mvsh (x y : Int32) : Int32 := (x.toUInt32 >>> (y.toUInt32 &&& Int32.toUInt32 31)).toInt32
/-- the objects: class, and of each field: 0 a number, 1 a truth value, n + 2 the cell n -/
def mvObj : Nat → Option (Nat × List Nat)
  | 0 => some (4, [3, 4, 5, 6, 8, 0, 0, 0, 0, 0])
  | 1 => some (0, [9, 0, 0])
  | 2 => some (2, [10, 11, 12, 13, 14, 15, 16, 17, 0])
  | 3 => some (3, [18, 19, 20, 21, 22, 23, 24, 0, 0, 0, 0, 25, 26, 27, 28, 29, 30, 31, 32, 1])
  | 4 => some (1, [33, 34, 0, 0, 0, 0, 0])
  | 5 => some (5, [35, 0, 0, 36, 37, 38, 39, 40, 41, 0, 42, 43, 0, 44, 1, 1, 1, 0, 45, 46, 47, 48, 49, 50, 51, 0, 1, 52, 53, 54, 55, 56, 57, 58, 59, 60, 61, 0, 1, 62, 63, 64, 1, 1, 1, 0, 0, 0, 0, 65, 0, 0, 0])
  | _ => none
/-- the arrays, from cell 6 on: length, and 1 for characters; the last one is the static table, read only -/
def mvArrs : List (Nat × Nat) := [(4, 0), (60, 1), (60, 0), (60, 0), (60, 0), (60, 0), (60, 0), (60, 0), (60, 0), (60, 0), (120, 0), (120, 0), (120, 0), (120, 0), (120, 0), (240, 0), (8, 0), (120, 0), (120, 0), (120, 0), (120, 0), (720, 0), (120, 0), (128, 0), (128, 0), (120, 0), (4, 0), (60, 0), (128, 0), (128, 0), (128, 0), (128, 0), (128, 0), (128, 0), (80, 0), (80, 0), (80, 0), (120, 0), (120, 0), (120, 0), (120, 0), (120, 0), (120, 0), (120, 0), (160, 0), (160, 0), (160, 0), (120, 0), (120, 0), (120, 0), (120, 0), (720, 0), (124, 0), (124, 0), (120, 0), (120, 0), (120, 0), (3600, 0), (4, 0)]
def mvArr (q : Nat) : Option (Nat × Nat) := match q with
  | 0 | 1 | 2 | 3 | 4 | 5 => none
  | n + 6 => mvget mvArrs n
def mvNC : Nat := 64
/-- a switch -/
def mvsw (K : Nat → Prop) (d : Nat) (x : Int32) : List (Int32 × Nat) → Prop
  | [] => K d
  | (v, t) :: r => (x = v → K t) ∧ (¬ x = v → mvsw K d x r)
/-- what a truth value or a character may be -/
def mvfit (b : Nat) (v : Int32) : Prop := match b with
  | 0 => True
  | 1 => v = 0 ∨ v = 1
  | _ => 0 ≤ v ∧ v ≤ 65535
def mvfld (fs : List Nat) (a : Nat) (h : mvH) (q : Nat) (k : mvV → Prop) : Prop := match mvget fs a with
  | some (n + 2) => k (.inr n)
  | some _ => k (.inl (h q a))
  | none => False
def mvret (r : Option mvV) (st : List mvV) : List mvV := match r with
  | some v => v :: st
  | none => st
/-- one instruction: k goes on at the next place, K at any place -/
def mvStep (cal : mvC) (Q : Option mvV → mvH → Prop) (K : Nat → mvL → List mvV → mvH → Prop) (e : mvE) (k : mvL → List mvV → mvH → Prop) (L : mvL) (st : List mvV) (h : mvH) : Prop :=
  match e with
  | (i, _, a, b, _, c, sw) =>
  match i with
  | .iconst _ => k L (.inl c :: st) h
  | .bipush _ => k L (.inl c :: st) h
  | .sipush _ => k L (.inl c :: st) h
  | .ldc _ => k L (.inl c :: st) h
  | .ldc_w _ => k L (.inl c :: st) h
  | .iload _ => (match mvget L a with
    | some (some (.inl x)) => k L (.inl x :: st) h
    | _ => False)
  | .iload_n _ => (match mvget L a with
    | some (some (.inl x)) => k L (.inl x :: st) h
    | _ => False)
  | .aload_n _ => (match mvget L a with
    | some (some (.inr x)) => k L (.inr x :: st) h
    | _ => False)
  | .istore _ => (match st with
    | .inl x :: r => mvset L a (some (.inl x)) (fun L' => k L' r h)
    | _ => False)
  | .istore_n _ => (match st with
    | .inl x :: r => mvset L a (some (.inl x)) (fun L' => k L' r h)
    | _ => False)
  | .iinc _ _ => (match mvget L a with
    | some (some (.inl x)) => mvset L a (some (.inl (x + c))) (fun L' => k L' st h)
    | _ => False)
  | .iadd => (match st with
    | .inl y :: .inl x :: r => k L (.inl (x + y) :: r) h
    | _ => False)
  | .isub => (match st with
    | .inl y :: .inl x :: r => k L (.inl (x - y) :: r) h
    | _ => False)
  | .imul => (match st with
    | .inl y :: .inl x :: r => k L (.inl (x * y) :: r) h
    | _ => False)
  | .idiv => (match st with
    | .inl y :: .inl x :: r => ¬ y = 0 ∧ k L (.inl (x / y) :: r) h
    | _ => False)
  | .irem => (match st with
    | .inl y :: .inl x :: r => ¬ y = 0 ∧ k L (.inl (x - x / y * y) :: r) h
    | _ => False)
  | .iand => (match st with
    | .inl y :: .inl x :: r => k L (.inl (x &&& y) :: r) h
    | _ => False)
  | .ior => (match st with
    | .inl y :: .inl x :: r => k L (.inl (x ||| y) :: r) h
    | _ => False)
  | .ixor => (match st with
    | .inl y :: .inl x :: r => k L (.inl (x ^^^ y) :: r) h
    | _ => False)
  | .ishl => (match st with
    | .inl y :: .inl x :: r => k L (.inl (x <<< (y &&& 31)) :: r) h
    | _ => False)
  | .ishr => (match st with
    | .inl y :: .inl x :: r => k L (.inl (x >>> (y &&& 31)) :: r) h
    | _ => False)
  | .iushr => (match st with
    | .inl y :: .inl x :: r => k L (.inl (mvsh x y) :: r) h
    | _ => False)
  | .dup => (match st with
    | v :: r => k L (v :: v :: r) h
    | _ => False)
  | .dup2 => (match st with
    | v :: w :: r => k L (v :: w :: v :: w :: r) h
    | _ => False)
  | .pop => (match st with
    | _ :: r => k L r h
    | _ => False)
  | .goto _ => K a L st h
  | .if_icmp cd _ => (match st with
    | .inl y :: .inl x :: r => (match cd with
      | .eq => (x = y → K a L r h) ∧ (¬ x = y → k L r h)
      | .ne => (¬ x = y → K a L r h) ∧ (x = y → k L r h)
      | .lt => (x < y → K a L r h) ∧ (¬ x < y → k L r h)
      | .ge => (y ≤ x → K a L r h) ∧ (¬ y ≤ x → k L r h)
      | .gt => (y < x → K a L r h) ∧ (¬ y < x → k L r h)
      | .le => (x ≤ y → K a L r h) ∧ (¬ x ≤ y → k L r h))
    | _ => False)
  | .ifCond cd _ => (match st with
    | .inl x :: r => (match cd with
      | .eq => (x = 0 → K a L r h) ∧ (¬ x = 0 → k L r h)
      | .ne => (¬ x = 0 → K a L r h) ∧ (x = 0 → k L r h)
      | .lt => (x < 0 → K a L r h) ∧ (¬ x < 0 → k L r h)
      | .ge => (0 ≤ x → K a L r h) ∧ (¬ 0 ≤ x → k L r h)
      | .gt => (0 < x → K a L r h) ∧ (¬ 0 < x → k L r h)
      | .le => (x ≤ 0 → K a L r h) ∧ (¬ x ≤ 0 → k L r h))
    | _ => False)
  | .tableswitch _ _ _ _ => (match st with
    | .inl x :: r => mvsw (fun t => K t L r h) a x sw
    | _ => False)
  | .lookupswitch _ _ => (match st with
    | .inl x :: r => mvsw (fun t => K t L r h) a x sw
    | _ => False)
  | .getfield _ => (match st with
    | .inr q :: r => (match mvObj q with
      | some (ci, fs) => (match Nat.beq ci b with
        | true => mvfld fs a h q (fun v => k L (v :: r) h)
        | false => False)
      | none => False)
    | _ => False)
  | .putfield _ => (match st with
    | .inl v :: .inr q :: r => (match mvObj q with
      | some (ci, fs) => (match Nat.beq ci b with
        | true => (match mvget fs a with
          | some 0 => k L r (hset h q a v)
          | some 1 => mvfit 1 v ∧ k L r (hset h q a v)
          | _ => False)
        | false => False)
      | none => False)
    | _ => False)
  | .getstatic _ => k L (.inr mvNC :: st) h
  | .iaload => (match st with
    | .inl j :: .inr q :: r => (match mvArr q with
      | some (n, 0) => vp_in j n ∧ k L (.inl (h q j.toNatClampNeg) :: r) h
      | _ => False)
    | _ => False)
  | .caload => (match st with
    | .inl j :: .inr q :: r => (match mvArr q with
      | some (n, 1) => vp_in j n ∧ k L (.inl (h q j.toNatClampNeg) :: r) h
      | _ => False)
    | _ => False)
  | .iastore => (match st with
    | .inl v :: .inl j :: .inr q :: r => (match Nat.blt q mvNC with
      | true => (match mvArr q with
        | some (n, 0) => vp_in j n ∧ k L r (hset h q j.toNatClampNeg v)
        | _ => False)
      | false => False)
    | _ => False)
  | .castore => (match st with
    | .inl v :: .inl j :: .inr q :: r => (match Nat.blt q mvNC with
      | true => (match mvArr q with
        | some (n, 1) => vp_in j n ∧ mvfit 2 v ∧ k L r (hset h q j.toNatClampNeg v)
        | _ => False)
      | false => False)
    | _ => False)
  | .arraylength => (match st with
    | .inr q :: r => (match Nat.blt q mvNC with
      | true => (match mvArr q with
        | some (n, 0) => k L (.inl (nI n) :: r) h
        | some (n, 1) => k L (.inl (nI n) :: r) h
        | _ => False)
      | false => False)
    | _ => False)
  | .invokevirtual _ => mvpop (b + 1) st [] (fun as r => match Nat.ble r.length 8 with
      | true => cal a as h (fun v h' => k L (mvret v r) h')
      | false => False)
  | .invokestatic _ => (match Nat.beq a 9999 with
    | false => mvpop b st [] (fun as r => match Nat.ble r.length 8 with
      | true => cal a as h (fun v h' => k L (mvret v r) h')
      | false => False)
    | true => (match st with
      | .inl n :: .inl dp :: .inr q1 :: .inl sp :: .inr q0 :: r => (match Nat.ble r.length 8 && Nat.blt q0 mvNC && Nat.blt q1 mvNC with
        | true => (match mvArr q0, mvArr q1 with
          | some (n0, 0), some (n1, 0) => (¬ sp < 0 ∧ ¬ dp < 0 ∧ ¬ n < 0 ∧ sp.toNatClampNeg + n.toNatClampNeg ≤ n0 ∧ dp.toNatClampNeg + n.toNatClampNeg ≤ n1) ∧ k L r (hcpy h q0 sp.toNatClampNeg q1 dp.toNatClampNeg n.toNatClampNeg)
          | _, _ => False)
        | false => False)
      | _ => False))
  | .ireturn => (match st with
    | [.inl v] => mvfit b v ∧ Q (some (.inl v)) h
    | _ => False)
  | .return_ => (match st with
    | [] => Q none h
    | _ => False)
  | _ => False
def mvRun (cal : mvC) (Q : Option mvV → mvH → Prop) (K : Nat → mvL → List mvV → mvH → Prop) : List mvE → mvL → List mvV → mvH → Prop
  | [], _, _, _ => False
  | [e], L, st, h => mvStep cal Q K e (fun L st h => K e.2.1 L st h) L st h
  | e :: e2 :: bl, L, st, h => mvStep cal Q K e (mvRun cal Q K (e2 :: bl)) L st h
/-- a method: name, bytes, locals, answer, arguments, 0 static or 1 + its class, blocks -/
abbrev mvM : Type := MethodName × ByteArray × Nat × Option FieldType × Nat × Nat × List (Nat × List mvE)
def mvlook : List (Nat × List mvE) → Nat → List mvE
  | [], _ => []
  | (p, bl) :: r, pc => match Nat.beq p pc with
    | true => bl
    | false => mvlook r pc
def mvnon : Nat → mvL
  | 0 => []
  | n + 1 => none :: mvnon n
def mvpad : List mvV → Nat → mvL
  | [], n => mvnon n
  | v :: vs, n => some v :: mvpad vs (n - 1)
/-- the arguments fit the method -/
def mvrecv (s n : Nat) (as : List mvV) : Prop := match s with
  | 0 => as.length = n
  | ci + 1 => match as with
    | .inr q :: r => r.length = n ∧ q < mvNC ∧ (mvObj q).map (fun x => x.1) = some ci
    | _ => False
/-- a call to depth d: every K that is closed under the method's blocks holds at its entry -/
def mvCal (MT : Nat → Option mvM) : Nat → mvC
  | 0, _, _, _, _ => False
  | d + 1, mid, as, h, Q => match MT mid with
    | none => False
    | some (_, _, nL, _, n, s, bls) => mvrecv s n as ∧ as.length ≤ nL ∧ ∀ K : Nat → mvL → List mvV → mvH → Prop, (∀ pc L st h, mvRun (mvCal MT d) Q K (mvlook bls pc) L st h → K pc L st h) → K 0 (mvpad as nL) [] h
