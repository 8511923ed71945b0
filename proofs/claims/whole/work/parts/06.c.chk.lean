/-! ===== the check of a code table against the bytes, the links and the method table ===== -/
def mHas3 (l : List (Nat × Nat × Nat)) (a b : Nat) : Bool := l.any fun q => Nat.beq q.1 a && Nat.beq q.2.1 b
def mHas4 (l : List (Nat × Nat × Nat × Nat)) (a b c : Nat) : Bool := l.any fun q => Nat.beq q.1 a && Nat.beq q.2.1 b && Nat.beq q.2.2.1 c
def mHas5 (l : List (Nat × Nat × Nat × Nat × Nat)) (a b c d : Nat) : Bool := l.any fun q => Nat.beq q.1 a && Nat.beq q.2.1 b && Nat.beq q.2.2.1 c && Nat.beq q.2.2.2.1 d
def mHasC (l : List (Nat × Nat × Int × Nat)) (a b : Nat) (z : Int) : Bool := l.any fun q => Nat.beq q.1 a && Nat.beq q.2.1 b && decide (q.2.2.1 = z)
/-- a call's kind of answer, from the callee: 0 void, 1 int, 2 long, and 10 more where it isn't quiet -/
def mKindOf (m : mMe) : Int := (match m.2.2.2.2.1 with | none => 0 | some .long => 2 | some _ => 1) + (if m.2.2.2.2.2.2.2.2.1 then 0 else 10)
def mCkCall (o k y n : Nat) (z : Int) (kind : Nat) : Bool := (mHas4 mmT o k y || mHas4 mmN o k y) && (match mtab[y]? with
  | some (some m) => Nat.beq m.2.2.2.2.2.2.1 kind && Nat.beq m.2.2.2.2.2.2.2.1 n && decide (mKindOf m = z)
  | _ => false)
def mCkSw (pc : Nat) (d lo hi : Int) (offs : List Int) (r1 : Nat) (sw : List (Int × Nat)) : Bool :=
  decide ((pc : Int) + d = r1) && decide (hi - lo + 1 = offs.length) && decide (sw.length = offs.length) && (List.range offs.length).all (fun i => decide ((sw.getD i (0, 0)).1 = lo + i) && decide (((sw.getD i (0, 0)).2 : Int) = pc + offs.getD i 0))
def mCkLk (pc : Nat) (d : Int) (ps : List (Int × Int)) (r1 : Nat) (sw : List (Int × Nat)) : Bool :=
  decide ((pc : Int) + d = r1) && (ps.zip (ps.drop 1)).all (fun (a, next) => a.1 < next.1) && decide (ps.map (fun q => (q.1, (pc : Int) + q.2)) = sw.map (fun q => (q.1, (q.2 : Int))))
def mCkFld (o k ci r1 r2 : Nat) : Bool := (mHas5 fT o k ci r1 || mHas5 fN o k ci r1) && Nat.blt ci 11 && Nat.blt r1 (mNf ci) && Nat.beq r2 (mFk ci r1)
def mCkE (o kind : Nat) (ret : Option FieldType) (bs : ByteArray) (pc : Nat) (e : mEnt) : Bool :=
  decide (decode bs pc = .ok (e.2.1, e.2.2.1)) && (match e with
  | (_, ins, len, r1, r2, z, sw) => match ins with
    | .iconst i => Nat.beq len 1 && decide (w32 i = i)
    | .bipush i => Nat.beq len 2 && decide ((Int8.ofInt i).toInt32 = Int32.ofInt i) && decide (w32 i = i)
    | .sipush i => Nat.beq len 3 && decide ((Int16.ofInt i).toInt32 = Int32.ofInt i) && decide (w32 i = i)
    | .lconst _ => Nat.beq len 1
    | .ldc k => Nat.beq len 2 && (bif Nat.beq r2 1 then Nat.beq o 4 && Nat.beq k 199 else mHasC cT o k z && decide (w32 z = z))
    | .ldc_w k => Nat.beq len 3 && mHasC cT o k z && decide (w32 z = z)
    | .ldc2_w k => Nat.beq len 3 && mHasC lT o k z && decide (w64 z = z)
    | .iload_n _ => Nat.beq len 1
    | .iload _ => Nat.beq len 2
    | .lload_n _ => Nat.beq len 1
    | .lload _ => Nat.beq len 2
    | .aload_n _ => Nat.beq len 1
    | .aload _ => Nat.beq len 2
    | .istore_n _ => Nat.beq len 1
    | .istore _ => Nat.beq len 2
    | .lstore_n _ => Nat.beq len 1
    | .lstore _ => Nat.beq len 2
    | .astore_n _ => Nat.beq len 1
    | .astore _ => Nat.beq len 2
    | .iinc _ _ => Nat.beq len 3
    | .goto off => decide ((pc : Int) + off = r1) && Nat.beq len 3
    | .ifCond _ off => Nat.beq len 3 && decide ((pc : Int) + off = r1)
    | .if_icmp _ off => Nat.beq len 3 && decide ((pc : Int) + off = r1)
    | .tableswitch d lo hi offs => mCkSw pc d lo hi offs.toList r1 sw
    | .lookupswitch _ _ => false
    | .getstatic k => Nat.beq len 3 && ((Nat.beq r1 1001 && Nat.beq o 9 && Nat.beq k 133) || (Nat.beq r1 1000 && ((Nat.beq o 4 && Nat.beq k 171) || (Nat.beq o 7 && Nat.beq k 9))))
    | .getfield k => Nat.beq len 3 && mCkFld o k z.toNat r1 r2
    | .putfield k => Nat.beq len 3 && mCkFld o k z.toNat r1 r2 && (!(mTf z.toNat r1).2.2.2 || (Nat.beq kind 2 && Nat.beq o z.toNat && mHas5 fT o k z.toNat r1))
    | .new k => Nat.beq len 3 && mHas4 kT o k r1 && Nat.blt r1 11 && Nat.beq r2 (mNf r1)
    | .newarray _ => Nat.beq len 2
    | .multianewarray k d => Nat.beq len 4 && Nat.beq d 2 && mHas3 gT o k
    | .invokespecial k => Nat.beq len 3 && (bif Nat.beq r1 9998 then mHas3 oT o k else mCkCall o k r1 r2 z 2)
    | .invokestatic k => Nat.beq len 3 && (bif Nat.beq r1 9999 then mHas3 aT o k else mCkCall o k r1 r2 z 0)
    | .invokevirtual k => Nat.beq len 3 && (bif Nat.beq r1 9997 then Nat.beq o 4 && Nat.beq k 201 else mCkCall o k r1 r2 z 1)
    | .ireturn => Nat.beq len 1 && ((Nat.beq r1 0 && decide (ret = some .int)) || (Nat.beq r1 1 && decide (ret = some .boolean)))
    | .lreturn => Nat.beq len 1 && decide (ret = some .long)
    | .return_ => Nat.beq len 1 && decide (ret = none)
    | _ => Nat.beq len 1)
def mCkC (o kind : Nat) (ret : Option FieldType) (bs : ByteArray) (n : Nat) (k : mCod) (q : Bool) : Bool := (List.range n).all fun pc => match k pc with
  | none => true
  | some e => mCkE o kind ret bs pc e && (!q || mQuiet e)
def mCk (e : mMe) : Bool := mCkC e.2.2.2.2.2.1 e.2.2.2.2.2.2.1 e.2.2.2.2.1 e.2.2.1 e.2.2.2.2.2.2.2.2.2.1 e.2.2.2.2.2.2.2.2.2.2 e.2.2.2.2.2.2.2.2.1
