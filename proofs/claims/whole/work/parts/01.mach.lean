/-! ===== MY OWN MACHINE: whole numbers (Int) for ints and longs, cells by number; a run is a function. Its soundness over the JVM stands in a later part. ===== -/
/-- a value: an int, a long, a reference (none: null) -/
abbrev mV : Type := Int ⊕ (Int ⊕ Option Nat)
abbrev mI (x : Int) : mV := Sum.inl x
abbrev mJ (x : Int) : mV := Sum.inr (Sum.inl x)
abbrev mP (a : Nat) : mV := Sum.inr (Sum.inr (some a))
abbrev mN : mV := Sum.inr (Sum.inr none)
/-- shapes of cells (kind, length): kinds 0 int[], 1 long[], 2 char[], 3 boolean[], 4 int[][], 10 + ci an object of class ci; numbers; references -/
abbrev mMem : Type := List (Nat × Nat) × ((Nat → Int → Int) × (Nat → Int → Option Nat))
abbrev mLs : Type := List (Option mV)
/-- an answer: a number (0 of a void method), and the memory behind -/
abbrev mRes : Type := Option (Int × mMem)
/-- an entry of a method's code: is it a cut?, the instruction, its length, two resolved numbers, a constant, a switch's cases -/
abbrev mEnt : Type := Bool × Instr × Nat × Nat × Nat × Int × List (Int × Nat)
abbrev mCod : Type := Nat → Option mEnt
abbrev mOrc : Type := Nat → List mV → mMem → mRes
def w32 (x : Int) : Int := Int.bmod x 4294967296
def w64 (x : Int) : Int := Int.bmod x 18446744073709551616
def iAnd (a b : Int) : Int := (Int32.ofInt a &&& Int32.ofInt b).toInt
def iOr (a b : Int) : Int := (Int32.ofInt a ||| Int32.ofInt b).toInt
def iXor (a b : Int) : Int := (Int32.ofInt a ^^^ Int32.ofInt b).toInt
def iShl (a b : Int) : Int := (Int32.ofInt a <<< (Int32.ofInt b &&& 31)).toInt
def iShr (a b : Int) : Int := (Int32.ofInt a >>> (Int32.ofInt b &&& 31)).toInt
def iUshr (a b : Int) : Int := (((Int32.ofInt a).toUInt32 >>> ((Int32.ofInt b).toUInt32 &&& Int32.toUInt32 31)).toInt32).toInt
def iDiv (a b : Int) : Int := (Int32.ofInt a / Int32.ofInt b).toInt
def iRem (a b : Int) : Int := (Int32.ofInt a - Int32.ofInt a / Int32.ofInt b * Int32.ofInt b).toInt
def lAnd (a b : Int) : Int := (Int64.ofInt a &&& Int64.ofInt b).toInt
def lDiv (a b : Int) : Int := (Int64.ofInt a / Int64.ofInt b).toInt
def lRem (a b : Int) : Int := (Int64.ofInt a - Int64.ofInt a / Int64.ofInt b * Int64.ofInt b).toInt
def l2i (a : Int) : Int := ((Int64.ofInt a).toInt32).toInt
/-- one place of the numbers, of the references -/
def m2 {α : Type} (f : Nat → Int → α) (a : Nat) (i : Int) (v : α) : Nat → Int → α := fun a' i' => if a' = a ∧ i' = i then v else f a' i'
/-- a whole cell anew -/
def m1 {α : Type} (f : Nat → Int → α) (a : Nat) (g : Int → α) : Nat → Int → α := fun a' i' => if a' = a then g i' else f a' i'
def mShape (M : mMem) (a : Nat) : Nat × Nat := (M.1[a]?).getD (99, 0)
/-- the outside cells: 1000 MOST, 1001 NAMED, 1002 the text of the own words, 1003 the law's script (asked of the oracle: 9995 its length, 9996 a place) -/
def xMost : List Int := [10, 12, 12, 6]
def xNamed : List Int := [0, 1, 3]
def mI1 (st : List mV) (g : Int → List mV → mRes) : mRes := match st with
  | Sum.inl a :: r => g a r
  | _ => none
def mI2 (st : List mV) (g : Int → Int → List mV → mRes) : mRes := match st with
  | Sum.inl b :: Sum.inl a :: r => g a b r
  | _ => none
def mJ1 (st : List mV) (g : Int → List mV → mRes) : mRes := match st with
  | Sum.inr (Sum.inl a) :: r => g a r
  | _ => none
def mJ2 (st : List mV) (g : Int → Int → List mV → mRes) : mRes := match st with
  | Sum.inr (Sum.inl b) :: Sum.inr (Sum.inl a) :: r => g a b r
  | _ => none
def mR1 (st : List mV) (g : Nat → List mV → mRes) : mRes := match st with
  | Sum.inr (Sum.inr (some a)) :: r => g a r
  | _ => none
/-- an index and an array -/
def mIR (st : List mV) (g : Int → Nat → List mV → mRes) : mRes := match st with
  | Sum.inl i :: Sum.inr (Sum.inr (some a)) :: r => g i a r
  | _ => none
def mRR (st : List mV) (g : mV → Nat → List mV → mRes) : mRes := match st with
  | v :: Sum.inr (Sum.inr (some a)) :: r => g v a r
  | _ => none
def mIIR (st : List mV) (g : Int → Int → Nat → List mV → mRes) : mRes := match st with
  | Sum.inl x :: Sum.inl i :: Sum.inr (Sum.inr (some a)) :: r => g x i a r
  | _ => none
def mJIR (st : List mV) (g : Int → Int → Nat → List mV → mRes) : mRes := match st with
  | Sum.inr (Sum.inl x) :: Sum.inl i :: Sum.inr (Sum.inr (some a)) :: r => g x i a r
  | _ => none
def mLd (ls : mLs) (i : Nat) (g : mV → mRes) : mRes := match ls[i]? with
  | some (some v) => g v
  | _ => none
def mIs (v : mV) : Nat := match v with
  | Sum.inl _ => 0
  | Sum.inr (Sum.inl _) => 1
  | Sum.inr (Sum.inr _) => 2
/-- a local of the kind t is read -/
def mLoad (t : Nat) (ls : mLs) (st : List mV) (i : Nat) (g : List mV → mRes) : mRes := mLd ls i fun v => bif Nat.beq (mIs v) t then g (v :: st) else none
/-- one is written: the place itself, and the one ahead of it must not be a long -/
def mLong (ls : mLs) (i : Nat) : Bool := match ls[i]? with
  | some (some (Sum.inr (Sum.inl _))) => true
  | _ => false
def mSt1 (ls : mLs) (i : Nat) (v : mV) : mLs := ls.set i (some v)
def mBefore (ls : mLs) (i : Nat) : Bool := match i with
  | 0 => false
  | k + 1 => mLong ls k
def mStore (t : Nat) (ls : mLs) (st : List mV) (i : Nat) (g : mLs → List mV → mRes) : mRes := match st with
  | v :: r => bif Nat.beq (mIs v) t && Nat.blt i ls.length && !(mBefore ls i) then g (ls.set i (some v)) r else none
  | [] => none
def mStoreJ (ls : mLs) (st : List mV) (i : Nat) (g : mLs → List mV → mRes) : mRes := match st with
  | v :: r => bif Nat.beq (mIs v) 1 && Nat.blt (i + 1) ls.length && !(mBefore ls i) then g ((ls.set i (some v)).set (i + 1) none) r else none
  | [] => none
/-- a field of kind 0 int, 1 long, 2 reference, 3 boolean -/
def mGetF (M : mMem) (a k kd : Nat) : mV := match kd with
  | 1 => Sum.inr (Sum.inl (M.2.1 a k))
  | 2 => Sum.inr (Sum.inr (M.2.2 a k))
  | _ => Sum.inl (M.2.1 a k)
def mPutF (M : mMem) (a k kd : Nat) (v : mV) (g : mMem → mRes) : mRes := match v with
  | Sum.inl x => match kd with
    | 0 => g (M.1, m2 M.2.1 a k x, M.2.2)
    | 3 => if x = 0 ∨ x = 1 then g (M.1, m2 M.2.1 a k x, M.2.2) else none
    | _ => none
  | Sum.inr (Sum.inl x) => bif Nat.beq kd 1 then g (M.1, m2 M.2.1 a k x, M.2.2) else none
  | Sum.inr (Sum.inr x) => bif Nat.beq kd 2 then g (M.1, M.2.1, m2 M.2.2 a k x) else none
/-- is the cell an object of class ci? -/
def mObj (M : mMem) (a ci : Nat) : Bool := Nat.beq (mShape M a).1 (10 + ci)
def mArr (M : mMem) (a kd : Nat) : Bool := Nat.beq (mShape M a).1 kd
def mNew (M : mMem) (kd n : Nat) : mMem := (M.1 ++ [(kd, n)], m1 M.2.1 M.1.length (fun _ => 0), m1 M.2.2 M.1.length (fun _ => none))
def mNews (M : mMem) (kd n : Nat) : Nat → mMem
  | 0 => M
  | c + 1 => mNew (mNews M kd n c) kd n
/-- int[n][k]: the outer one first, then its rows -/
def mMulti (M : mMem) (n k : Nat) : mMem := match mNews (mNew M 4 n) 0 k n with
  | (sh, mu, rh) => (sh, mu, m1 rh M.1.length (fun j => if 0 ≤ j ∧ j < n then some (M.1.length + 1 + j.toNat) else none))
def mCpy {α : Type} (f g : Int → α) (sp dp n : Int) : Int → α := fun k => if dp ≤ k ∧ k < dp + n then f (sp + (k - dp)) else g k
def mCp (mu : Nat → Int → Int) (s d : Nat) (sp dp n : Int) : Nat → Int → Int := m1 mu d (mCpy (mu s) (mu d) sp dp n)
/-- System.arraycopy between int arrays -/
def mCopy (st : List mV) (M : mMem) (g : List mV → mMem → mRes) : mRes := match st with
  | Sum.inl n :: Sum.inl dp :: Sum.inr (Sum.inr (some d)) :: Sum.inl sp :: Sum.inr (Sum.inr (some s)) :: r =>
    bif mArr M s 0 && mArr M d 0 then
      if 0 ≤ n ∧ 0 ≤ sp ∧ 0 ≤ dp ∧ sp + n ≤ (mShape M s).2 ∧ dp + n ≤ (mShape M d).2 then g r (M.1, mCp M.2.1 s d sp dp n, M.2.2) else none
    else none
  | _ => none
/-- taking n arguments off the stack, the last one first -/
def mTake (n : Nat) (st acc : List mV) (g : List mV → List mV → mRes) : mRes := match n, st with
  | 0, st => g acc st
  | n + 1, v :: r => mTake n r (v :: acc) g
  | _ + 1, [] => none
def mSw (x : Int) (sw : List (Int × Nat)) (d : Nat) (g : Nat → mRes) : mRes := match sw with
  | [] => g d
  | (v, t) :: r => if x = v then g t else mSw x r d g
def xWords : List Int := "room  man   lets  bribe tires gate  by    personat    to    coins tact  hour  passedwho   day   or    and   not   all   min   max   ".toList.map (fun c => (c.toNat : Int))
def mOpt (x : Option Nat) (g : Nat → mRes) : mRes := match x with
  | some a => g a
  | none => none
def mOptR (x : mRes) (g : Int × mMem → mRes) : mRes := match x with
  | some a => g a
  | none => none
/-- behind a call, by its kind: 0 void, 1 int, 2 long (steady: shapes and references are as before), 10, 11, 12 (not steady) -/
def mCall (z : Int) (M : mMem) (x : mRes) (g : List mV → mMem → mRes) : mRes := mOptR x fun x => match z with
    | 0 => g [] (M.1, x.2.2.1, M.2.2)
    | 1 => g [mI x.1] (M.1, x.2.2.1, M.2.2)
    | 2 => g [mJ x.1] (M.1, x.2.2.1, M.2.2)
    | 10 => g [] x.2
    | 11 => g [mI x.1] x.2
    | 12 => g [mJ x.1] x.2
    | _ => none
def mBr (c : Prop) [Decidable c] (a b : mRes) : mRes := if c then a else b
/-- one instruction -/
def mStep (Φ : mOrc) (e : mEnt) (pc : Nat) (ls : mLs) (st : List mV) (M : mMem) (go : Nat → mLs → List mV → mMem → mRes) : mRes :=
  match e with
  | (_, ins, len, r1, r2, z, sw) => match ins with
    | .iconst i => go (pc + len) ls (mI i :: st) M
    | .bipush i => go (pc + len) ls (mI i :: st) M
    | .sipush i => go (pc + len) ls (mI i :: st) M
    | .lconst i => go (pc + len) ls (mJ i :: st) M
    | .ldc _ => bif Nat.beq r2 1 then go (pc + len) ls (mP 1002 :: st) M else go (pc + len) ls (mI z :: st) M
    | .ldc_w _ => go (pc + len) ls (mI z :: st) M
    | .ldc2_w _ => go (pc + len) ls (mJ z :: st) M
    | .iload_n n => mLoad 0 ls st n fun st => go (pc + len) ls st M
    | .iload n => mLoad 0 ls st n fun st => go (pc + len) ls st M
    | .lload_n n => mLoad 1 ls st n fun st => go (pc + len) ls st M
    | .lload n => mLoad 1 ls st n fun st => go (pc + len) ls st M
    | .aload_n n => mLoad 2 ls st n fun st => go (pc + len) ls st M
    | .aload n => mLoad 2 ls st n fun st => go (pc + len) ls st M
    | .istore_n n => mStore 0 ls st n fun ls st => go (pc + len) ls st M
    | .istore n => mStore 0 ls st n fun ls st => go (pc + len) ls st M
    | .lstore_n n => mStoreJ ls st n fun ls st => go (pc + len) ls st M
    | .lstore n => mStoreJ ls st n fun ls st => go (pc + len) ls st M
    | .astore_n n => mStore 2 ls st n fun ls st => go (pc + len) ls st M
    | .astore n => mStore 2 ls st n fun ls st => go (pc + len) ls st M
    | .iinc n k => mLd ls n fun v => match v with
      | Sum.inl x => go (pc + len) (ls.set n (some (mI (w32 (x + k))))) st M
      | _ => none
    | .iadd => mI2 st fun a b r => go (pc + len) ls (mI (w32 (a + b)) :: r) M
    | .isub => mI2 st fun a b r => go (pc + len) ls (mI (w32 (a - b)) :: r) M
    | .imul => mI2 st fun a b r => go (pc + len) ls (mI (w32 (a * b)) :: r) M
    | .iand => mI2 st fun a b r => go (pc + len) ls (mI (iAnd a b) :: r) M
    | .ior => mI2 st fun a b r => go (pc + len) ls (mI (iOr a b) :: r) M
    | .ixor => mI2 st fun a b r => go (pc + len) ls (mI (iXor a b) :: r) M
    | .ishl => mI2 st fun a b r => go (pc + len) ls (mI (iShl a b) :: r) M
    | .ishr => mI2 st fun a b r => go (pc + len) ls (mI (iShr a b) :: r) M
    | .iushr => mI2 st fun a b r => go (pc + len) ls (mI (iUshr a b) :: r) M
    | .idiv => mI2 st fun a b r => if b = 0 then none else go (pc + len) ls (mI (iDiv a b) :: r) M
    | .irem => mI2 st fun a b r => if b = 0 then none else go (pc + len) ls (mI (iRem a b) :: r) M
    | .ladd => mJ2 st fun a b r => go (pc + len) ls (mJ (w64 (a + b)) :: r) M
    | .lsub => mJ2 st fun a b r => go (pc + len) ls (mJ (w64 (a - b)) :: r) M
    | .lmul => mJ2 st fun a b r => go (pc + len) ls (mJ (w64 (a * b)) :: r) M
    | .land => mJ2 st fun a b r => go (pc + len) ls (mJ (lAnd a b) :: r) M
    | .ldiv => mJ2 st fun a b r => if b = 0 then none else go (pc + len) ls (mJ (lDiv a b) :: r) M
    | .lrem => mJ2 st fun a b r => if b = 0 then none else go (pc + len) ls (mJ (lRem a b) :: r) M
    | .lcmp => mJ2 st fun a b r => go (pc + len) ls (mI (if a < b then -1 else if a = b then 0 else 1) :: r) M
    | .i2l => mI1 st fun a r => go (pc + len) ls (mJ a :: r) M
    | .l2i => mJ1 st fun a r => go (pc + len) ls (mI (l2i a) :: r) M
    | .dup => match st with
      | v :: r => bif Nat.beq (mIs v) 1 then none else go (pc + len) ls (v :: v :: r) M
      | _ => none
    | .pop => match st with
      | v :: r => bif Nat.beq (mIs v) 1 then none else go (pc + len) ls r M
      | _ => none
    | .dup2 => match st with
      | v :: w :: r => bif Nat.beq (mIs v) 1 || Nat.beq (mIs w) 1 then none else go (pc + len) ls (v :: w :: v :: w :: r) M
      | _ => none
    | .goto _ => go r1 ls st M
    | .ifCond c _ => mI1 st fun a r => match c with
      | .eq => mBr (a = 0) (go r1 ls r M) (go (pc + len) ls r M)
      | .ne => mBr (a = 0) (go (pc + len) ls r M) (go r1 ls r M)
      | .lt => mBr (a < 0) (go r1 ls r M) (go (pc + len) ls r M)
      | .ge => mBr (a < 0) (go (pc + len) ls r M) (go r1 ls r M)
      | .gt => mBr (0 < a) (go r1 ls r M) (go (pc + len) ls r M)
      | .le => mBr (0 < a) (go (pc + len) ls r M) (go r1 ls r M)
    | .if_icmp c _ => mI2 st fun a b r => match c with
      | .eq => mBr (a = b) (go r1 ls r M) (go (pc + len) ls r M)
      | .ne => mBr (a = b) (go (pc + len) ls r M) (go r1 ls r M)
      | .lt => mBr (a < b) (go r1 ls r M) (go (pc + len) ls r M)
      | .ge => mBr (a < b) (go (pc + len) ls r M) (go r1 ls r M)
      | .gt => mBr (b < a) (go r1 ls r M) (go (pc + len) ls r M)
      | .le => mBr (b < a) (go (pc + len) ls r M) (go r1 ls r M)
    | .tableswitch _ _ _ _ => mI1 st fun a r => mSw a sw r1 fun t => go t ls r M
    | .lookupswitch _ _ => mI1 st fun a r => mSw a sw r1 fun t => go t ls r M
    | .getstatic _ => go (pc + len) ls (mP r1 :: st) M
    | .getfield _ => mR1 st fun a r => bif mObj M a z.toNat then go (pc + len) ls (mGetF M a r1 r2 :: r) M else none
    | .putfield _ => mRR st fun v a r => bif mObj M a z.toNat then mPutF M a r1 r2 v fun M => go (pc + len) ls r M else none
    | .arraylength => mR1 st fun a r => match r1 with
        | 0 => bif Nat.blt (mShape M a).1 5 then go (pc + len) ls (mI (mShape M a).2 :: r) M else none
        | 1 => bif Nat.beq a 1000 then go (pc + len) ls (mI 4 :: r) M else none
        | 2 => bif Nat.beq a 1001 then go (pc + len) ls (mI 3 :: r) M else none
        | _ => bif Nat.beq a 1003 then mCall 1 M (Φ 9995 [] M) fun st M => go (pc + len) ls (st ++ r) M else none
    | .iaload => mIR st fun i a r => match r1 with
        | 0 => bif mArr M a 0 then (if 0 ≤ i ∧ i < (mShape M a).2 then go (pc + len) ls (mI (M.2.1 a i) :: r) M else none) else none
        | 1 => bif Nat.beq a 1000 then (if 0 ≤ i ∧ i < 4 then go (pc + len) ls (mI (xMost.getD i.toNat 0) :: r) M else none) else none
        | 2 => bif Nat.beq a 1001 then (if 0 ≤ i ∧ i < 3 then go (pc + len) ls (mI (xNamed.getD i.toNat 0) :: r) M else none) else none
        | _ => bif Nat.beq a 1003 then mCall 1 M (Φ 9996 [mI i] M) fun st M => go (pc + len) ls (st ++ r) M else none
    | .caload => mIR st fun i a r => bif mArr M a 2 then (if 0 ≤ i ∧ i < (mShape M a).2 then go (pc + len) ls (mI (M.2.1 a i) :: r) M else none) else none
    | .baload => mIR st fun i a r => bif mArr M a 3 then (if 0 ≤ i ∧ i < (mShape M a).2 then go (pc + len) ls (mI (M.2.1 a i) :: r) M else none) else none
    | .laload => mIR st fun i a r => bif mArr M a 1 then (if 0 ≤ i ∧ i < (mShape M a).2 then go (pc + len) ls (mJ (M.2.1 a i) :: r) M else none) else none
    | .aaload => mIR st fun i a r => bif mArr M a 4 then (if 0 ≤ i ∧ i < (mShape M a).2 then mOpt (M.2.2 a i) fun x => go (pc + len) ls (mP x :: r) M else none) else none
    | .iastore => mIIR st fun x i a r => bif mArr M a 0 then (if 0 ≤ i ∧ i < (mShape M a).2 then go (pc + len) ls r (M.1, m2 M.2.1 a i x, M.2.2) else none) else none
    | .castore => mIIR st fun x i a r => bif mArr M a 2 then (if 0 ≤ i ∧ i < (mShape M a).2 ∧ 0 ≤ x ∧ x < 128 then go (pc + len) ls r (M.1, m2 M.2.1 a i x, M.2.2) else none) else none
    | .bastore => mIIR st fun x i a r => bif mArr M a 3 then (if 0 ≤ i ∧ i < (mShape M a).2 ∧ (x = 0 ∨ x = 1) then go (pc + len) ls r (M.1, m2 M.2.1 a i x, M.2.2) else none) else none
    | .lastore => mJIR st fun x i a r => bif mArr M a 1 then (if 0 ≤ i ∧ i < (mShape M a).2 then go (pc + len) ls r (M.1, m2 M.2.1 a i x, M.2.2) else none) else none
    | .new _ => go (pc + len) ls (mP M.1.length :: st) (mNew M (10 + r1) r2)
    | .newarray t => mI1 st fun n r => if 0 ≤ n ∧ n < 100000 then match t with
        | .int => go (pc + len) ls (mP M.1.length :: r) (mNew M 0 n.toNat)
        | .long => go (pc + len) ls (mP M.1.length :: r) (mNew M 1 n.toNat)
        | .char => go (pc + len) ls (mP M.1.length :: r) (mNew M 2 n.toNat)
        | .boolean => go (pc + len) ls (mP M.1.length :: r) (mNew M 3 n.toNat)
        | _ => none else none
    | .multianewarray _ _ => mI2 st fun n k r => if 0 ≤ n ∧ n < 1000 ∧ 0 ≤ k ∧ k < 1000 then go (pc + len) ls (mP M.1.length :: r) (mMulti M n.toNat k.toNat) else none
    | .invokespecial _ => bif Nat.beq r1 9998 then mR1 st fun _ r => bif Nat.blt 4 r.length then none else go (pc + len) ls r M else
        mTake r2 st [] fun as r => bif Nat.blt 4 r.length then none else mCall z M (Φ r1 as M) fun st M => go (pc + len) ls (st ++ r) M
    | .invokestatic _ => bif Nat.beq r1 9999 then mCopy st M fun r M => bif Nat.blt 4 r.length then none else go (pc + len) ls r M else
        mTake r2 st [] fun as r => bif Nat.blt 4 r.length then none else mCall z M (Φ r1 as M) fun st M => go (pc + len) ls (st ++ r) M
    | .invokevirtual _ => bif Nat.beq r1 9997 then mIR st fun i a r => bif Nat.beq a 1002 && !(Nat.blt 4 r.length) then (if 0 ≤ i ∧ i < 132 then go (pc + len) ls (mI (xWords.getD i.toNat 0) :: r) M else none) else none else
        mTake r2 st [] fun as r => bif Nat.blt 4 r.length then none else mCall z M (Φ r1 as M) fun st M => go (pc + len) ls (st ++ r) M
    | .return_ => match st with
      | [] => some (0, M)
      | _ => none
    | .ireturn => match st with
      | [Sum.inl a] => bif Nat.beq r1 1 then (if a = 0 ∨ a = 1 then some (a, M) else none) else some (a, M)
      | _ => none
    | .lreturn => match st with
      | [Sum.inr (Sum.inl a)] => some (a, M)
      | _ => none
    | _ => none
def mCut (c : mCod) (pc : Nat) : Bool := match c pc with
  | some e => e.1
  | none => false
/-- forward, up to a cut or an answer -/
def mFwd (Φ : mOrc) (c : mCod) (k : Nat → mLs → List mV → mMem → mRes) : Nat → Nat → mLs → List mV → mMem → mRes
  | 0, _, _, _, _ => none
  | f + 1, pc, ls, st, M => match c pc with
    | none => none
    | some e => mStep Φ e pc ls st M fun pc ls st M => bif mCut c pc then k pc ls st M else mFwd Φ c k f pc ls st M
/-- from cut to cut -/
def mRun (Φ : mOrc) (c : mCod) : Nat → Nat → mLs → List mV → mMem → mRes
  | 0, _, _, _, _ => none
  | n + 1, pc, ls, st, M => mFwd Φ c (mRun Φ c n) 1000 pc ls st M
