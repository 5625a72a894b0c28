/-! THE ABSTRACT MACHINE: the methods' instructions, run over numbered cells (kind, index, slot). A value is an int, or a pair (kind, index); kind 0 is null; kind 50 is the script. -/
abbrev aV : Type := Int32 ⊕ (Nat × Nat)
abbrev aS : Type := Nat → Nat → Nat → Int32
abbrev aL : Type := List (Nat × aV)
abbrev aR : Type := Option (Option aV × aS)
/-- one cell's slot gets a number -/
def au (S : aS) (t j f : Nat) (v : Int32) : aS := fun t' j' f' => if t' = t ∧ j' = j ∧ f' = f then v else S t' j' f'
/-- a part of an array is copied -/
def acp (S : aS) (t0 j0 t1 j1 sp dp n : Nat) : aS := fun t' j' f' => if t' = t1 ∧ j' = j1 then va_cpy (S t0 j0) (S t1 j1) sp dp n f' else S t' j' f'
def lk {ρ : Type} (i : Nat) : aL → (aV → ρ) → ρ → ρ
  | [], _, z => z
  | q :: L, K, z => bif Nat.beq q.1 i then K q.2 else lk i L K z
def lst {ρ : Type} (i : Nat) (v : aV) : aL → (aL → ρ) → ρ
  | [], K => K [(i, v)]
  | q :: L, K => bif Nat.beq q.1 i then K ((i, v) :: L) else lst i v L (fun L' => K (q :: L'))
def popN {ρ : Type} : Nat → List aV → List aV → ρ → (List aV → List aV → ρ) → ρ
  | 0, st, acc, _, K => K acc st
  | n + 1, v :: st, acc, z, K => popN n st (v :: acc) z K
  | _ + 1, [], _, z, _ => z
def mkL : Nat → List aV → aL
  | _, [] => []
  | i, v :: vs => (i, v) :: mkL (i + 1) vs
def pu (r : Option aV) (st : List aV) : List aV := match r with
  | some v => v :: st
  | none => st
def tsel (a : Int32) (pc d : Int) : Int → List Int → Nat
  | _, [] => (pc + d).toNat
  | v, o :: os => if a = Int32.ofInt v then (pc + o).toNat else tsel a pc d (v + 1) os
/-- an argument that a method may have: no script -/
def aok (v : aV) : Bool := match v with
  | .inl _ => true
  | .inr q => Nat.blt q.1 50
/-- the object that a method is called on is of the method's class -/
def aRc (x : Nat) (as : List aV) : Bool := match as with
  | .inr (t, _) :: _ => (match aK t with
    | .inl (ci, _) => Nat.beq ci (mO x)
    | .inr _ => false)
  | _ => false
def acal (vi : Bool) (rec : Nat → Nat → List aE → aL → List aV → aS → aR) (d k x y : Nat) (is : List aE) (L : aL) (st : List aV) (S : aS) : aR := match d with
  | 0 => none
  | d' + 1 => popN y st [] none (fun as rest => bif Nat.ble rest.length 8 && (as.all aok && (bif vi then aRc x as else true)) then (rec d' x (aB x 0) (mkL 0 as) [] S).bind (fun p => rec (d' + 1) k is L (pu p.1 rest) p.2) else none)
def stp (zs : Nat × (Nat → Int32)) (rec : Nat → Nat → List aE → aL → List aV → aS → aR) (d k pc : Nat) (ins : Jvm.ClassFile.Instr) (x y : Nat) (is : List aE) (L : aL) (st : List aV) (S : aS) : aR := match ins with
  | .iconst _ => bif Nat.beq y 0 then rec d k is L (.inl (nI x) :: st) S else rec d k is L (.inl (-1) :: st) S
  | .bipush _ => rec d k is L (.inl (nI x) :: st) S
  | .sipush _ => rec d k is L (.inl (nI x) :: st) S
  | .aconst_null => rec d k is L (.inr (0, 0) :: st) S
  | .iload _ => lk x L (fun v => match v with
    | .inl a => rec d k is L (.inl a :: st) S
    | .inr _ => none) none
  | .iload_n _ => lk x L (fun v => match v with
    | .inl a => rec d k is L (.inl a :: st) S
    | .inr _ => none) none
  | .aload _ => lk x L (fun v => match v with
    | .inl _ => none
    | .inr q => rec d k is L (.inr q :: st) S) none
  | .aload_n _ => lk x L (fun v => match v with
    | .inl _ => none
    | .inr q => rec d k is L (.inr q :: st) S) none
  | .istore _ => match st with
    | .inl a :: st => lst x (.inl a) L (fun L => rec d k is L st S)
    | _ => none
  | .istore_n _ => match st with
    | .inl a :: st => lst x (.inl a) L (fun L => rec d k is L st S)
    | _ => none
  | .astore _ => match st with
    | .inr q :: st => lst x (.inr q) L (fun L => rec d k is L st S)
    | _ => none
  | .astore_n _ => match st with
    | .inr q :: st => lst x (.inr q) L (fun L => rec d k is L st S)
    | _ => none
  | .iinc _ _ => lk x L (fun v => match v with
    | .inl a => bif Nat.beq y 0 then lst x (.inl (a - nI 1)) L (fun L => rec d k is L st S) else lst x (.inl (a + nI y)) L (fun L => rec d k is L st S)
    | .inr _ => none) none
  | .iadd => match st with
    | .inl b :: .inl a :: st => rec d k is L (.inl (a + b) :: st) S
    | _ => none
  | .isub => match st with
    | .inl b :: .inl a :: st => rec d k is L (.inl (a - b) :: st) S
    | _ => none
  | .imul => match st with
    | .inl b :: .inl a :: st => rec d k is L (.inl (a * b) :: st) S
    | _ => none
  | .iand => match st with
    | .inl b :: .inl a :: st => rec d k is L (.inl (a &&& b) :: st) S
    | _ => none
  | .ior => match st with
    | .inl b :: .inl a :: st => rec d k is L (.inl (a ||| b) :: st) S
    | _ => none
  | .ixor => match st with
    | .inl b :: .inl a :: st => rec d k is L (.inl (a ^^^ b) :: st) S
    | _ => none
  | .ishl => match st with
    | .inl b :: .inl a :: st => rec d k is L (.inl (a <<< (b &&& 31)) :: st) S
    | _ => none
  | .ishr => match st with
    | .inl b :: .inl a :: st => rec d k is L (.inl (a >>> (b &&& 31)) :: st) S
    | _ => none
  | .idiv => match st with
    | .inl b :: .inl a :: st => if b = 0 then none else rec d k is L (.inl (a / b) :: st) S
    | _ => none
  | .irem => match st with
    | .inl b :: .inl a :: st => if b = 0 then none else rec d k is L (.inl (a - a / b * b) :: st) S
    | _ => none
  | .dup => match st with
    | v :: st => rec d k is L (v :: v :: st) S
    | _ => none
  | .pop => match st with
    | _ :: st => rec d k is L st S
    | _ => none
  | .dup_x1 => match st with
    | v :: w :: st => rec d k is L (v :: w :: v :: st) S
    | _ => none
  | .dup_x2 => match st with
    | v :: w :: z :: st => rec d k is L (v :: w :: z :: v :: st) S
    | _ => none
  | .dup2 => match st with
    | v :: w :: st => rec d k is L (v :: w :: v :: w :: st) S
    | _ => none
  | .goto _ => rec d k (aB k x) L st S
  | .ifnull _ => match st with
    | .inr (0, _) :: st => rec d k (aB k x) L st S
    | .inr (_ + 1, _) :: st => rec d k is L st S
    | _ => none
  | .ifnonnull _ => match st with
    | .inr (0, _) :: st => rec d k is L st S
    | .inr (_ + 1, _) :: st => rec d k (aB k x) L st S
    | _ => none
  | .ifCond c _ => match st with
    | .inl a :: st => (match c with
      | .eq => if a = 0 then rec d k (aB k x) L st S else rec d k is L st S
      | .ne => if ¬ a = 0 then rec d k (aB k x) L st S else rec d k is L st S
      | .lt => if a < 0 then rec d k (aB k x) L st S else rec d k is L st S
      | .ge => if 0 ≤ a then rec d k (aB k x) L st S else rec d k is L st S
      | .gt => if 0 < a then rec d k (aB k x) L st S else rec d k is L st S
      | .le => if a ≤ 0 then rec d k (aB k x) L st S else rec d k is L st S)
    | _ => none
  | .if_icmp c _ => match st with
    | .inl b :: .inl a :: st => (match c with
      | .eq => if a = b then rec d k (aB k x) L st S else rec d k is L st S
      | .ne => if ¬ a = b then rec d k (aB k x) L st S else rec d k is L st S
      | .lt => if a < b then rec d k (aB k x) L st S else rec d k is L st S
      | .ge => if b ≤ a then rec d k (aB k x) L st S else rec d k is L st S
      | .gt => if b < a then rec d k (aB k x) L st S else rec d k is L st S
      | .le => if a ≤ b then rec d k (aB k x) L st S else rec d k is L st S)
    | _ => none
  | .tableswitch df lo _ offs => match st with
    | .inl a :: st => rec d k (aB k (tsel a pc df lo offs.toList)) L st S
    | _ => none
  | .getfield _ => match st with
    | .inr (t, j) :: st => (match aK t with
      | .inl (ci, fs) => bif Nat.beq ci x then (match fs[y]? with
        | some none => rec d k is L (.inl (S t j y) :: st) S
        | some (some t') => rec d k is L (.inr (t', j) :: st) S
        | none => none) else none
      | .inr _ => none)
    | _ => none
  | .putfield _ => match st with
    | .inl a :: .inr (t, j) :: st => (match aK t with
      | .inl (ci, fs) => bif Nat.beq ci x then (match fs[y]? with
        | some none => rec d k is L st (au S t j y a)
        | _ => none) else none
      | .inr _ => none)
    | _ => none
  | .iaload => match st with
    | .inl i :: .inr (t, j) :: st => (match aK t with
      | .inr (0, n, _) => if 0 ≤ i.toInt ∧ i.toInt < (n : Int) then rec d k is L (.inl (S t j i.toNatClampNeg) :: st) S else none
      | .inr (3, _, _) => if 0 ≤ i.toInt ∧ i.toInt < (zs.1 : Int) then rec d k is L (.inl (zs.2 i.toNatClampNeg) :: st) S else none
      | _ => none)
    | _ => none
  | .baload => match st with
    | .inl i :: .inr (t, j) :: st => (match aK t with
      | .inr (1, n, _) => if 0 ≤ i.toInt ∧ i.toInt < (n : Int) then rec d k is L (.inl (S t j i.toNatClampNeg) :: st) S else none
      | _ => none)
    | _ => none
  | .aaload => match st with
    | .inl i :: .inr (t, _) :: st => (match aK t with
      | .inr (2, n, t') => if 0 ≤ i.toInt ∧ i.toInt < (n : Int) then rec d k is L (.inr (t', i.toNatClampNeg) :: st) S else none
      | _ => none)
    | _ => none
  | .iastore => match st with
    | .inl a :: .inl i :: .inr (t, j) :: st => (match aK t with
      | .inr (0, n, _) => if 0 ≤ i.toInt ∧ i.toInt < (n : Int) then rec d k is L st (au S t j i.toNatClampNeg a) else none
      | _ => none)
    | _ => none
  | .bastore => match st with
    | .inl a :: .inl i :: .inr (t, j) :: st => (match aK t with
      | .inr (1, n, _) => if (0 ≤ i.toInt ∧ i.toInt < (n : Int)) ∧ (a = 0 ∨ a = 1) then rec d k is L st (au S t j i.toNatClampNeg a) else none
      | _ => none)
    | _ => none
  | .arraylength => match st with
    | .inr (t, _) :: st => (match aK t with
      | .inr (3, _, _) => rec d k is L (.inl (Int32.ofNat zs.1) :: st) S
      | .inr (9, _, _) => none
      | .inr (_, n, _) => rec d k is L (.inl (nI n) :: st) S
      | _ => none)
    | _ => none
  | .invokevirtual _ => acal true rec d k x y is L st S
  | .invokestatic _ => bif Nat.beq x 1000 then (match d, st with
      | _ + 1, .inl b :: .inl a :: st => bif Nat.ble st.length 8 then rec d k is L (.inl (if a < b then b else a) :: st) S else none
      | _, _ => none)
    else bif Nat.beq x 1001 then (match d, st with
      | _ + 1, .inl n :: .inl dp :: .inr (t1, j1) :: .inl sp :: .inr (t0, j0) :: st => (match aK t0, aK t1 with
        | .inr (0, n0, _), .inr (0, n1, _) => bif Nat.ble st.length 8 then (if 0 ≤ sp.toInt ∧ 0 ≤ dp.toInt ∧ 0 ≤ n.toInt ∧ sp.toInt + n.toInt ≤ (n0 : Int) ∧ dp.toInt + n.toInt ≤ (n1 : Int) then rec d k is L st (acp S t0 j0 t1 j1 sp.toNatClampNeg dp.toNatClampNeg n.toNatClampNeg) else none) else none
        | _, _ => none)
      | _, _ => none)
    else acal false rec d k x y is L st S
  | .ireturn => match st with
    | [.inl a] => bif Nat.beq x 0 then some (some (.inl a), S) else if a = 0 ∨ a = 1 then some (some (.inl a), S) else none
    | _ => none
  | .areturn => match st with
    | [.inr q] => some (some (.inr q), S)
    | _ => none
  | .return_ => match st with
    | [] => some (none, S)
    | _ => none
  | _ => none
def ev (zs : Nat × (Nat → Int32)) : Nat → Nat → Nat → List aE → aL → List aV → aS → aR
  | 0, _, _, _, _, _, _ => none
  | n + 1, d, k, is, L, st, S => match is with
    | [] => none
    | (pc, ins, x, y) :: is => stp zs (ev zs n) d k pc ins x y is L st S
