/-! A machine of our own over the same bytecode: its heap has a fixed shape, a reference carries its kind. Kinds of a reference (k, n, a): 0 null; 1 an object of class n at a; 2 ints of length n at a; 3 longs; 4 ints that nobody writes; 5 n rows of longs, at a + 1 + i. -/
abbrev PV : Type := Int32 ⊕ (Int64 ⊕ (Nat × Nat × Nat))
abbrev PS : Type := (Nat → Nat → Int32) × (Nat → Nat → Int64)
abbrev PR : Type := Option (Option PV × PS)
abbrev PL : Type := List (Option PV)
abbrev vI (x : Int32) : PV := .inl x
abbrev vL (x : Int64) : PV := .inr (.inl x)
abbrev vR (k n a : Nat) : PV := .inr (.inr (k, n, a))
def u2 (M : Nat → Nat → Int32) (a j : Nat) (x : Int32) : Nat → Nat → Int32 := fun c => if c = a then upd (M c) j x else M c
def u2L (M : Nat → Nat → Int64) (a j : Nat) (x : Int64) : Nat → Nat → Int64 := fun c => if c = a then vp_updL (M c) j x else M c
def c2 (M : Nat → Nat → Int32) (a b sp dp n : Nat) : Nat → Nat → Int32 := fun c => if c = b then va_cpy (M a) (M c) sp dp n else M c
def c2L (M : Nat → Nat → Int64) (a b sp dp n : Nat) : Nat → Nat → Int64 := fun c => if c = b then va_cpy (M a) (M c) sp dp n else M c
/-- an index inside -/
abbrev ib (i : Int32) (n : Nat) : Prop := 0 ≤ i.toInt ∧ i.toInt < (n : Int)
def ix (i : Int32) : Nat := i.toNatClampNeg
/-- what the rest needs of the machine's remainder -/
def rm32 (x y : Int32) : Int32 := x - x / y * y
def us32 (x y : Int32) : Int32 := (x.toUInt32 >>> (y.toUInt32 &&& Int32.toUInt32 31)).toInt32
def wd (v : PV) : Nat := match v with
  | .inr (.inl _) => 2
  | _ => 1
def xp : List PV → PL
  | [] => []
  | .inr (.inl x) :: t => some (vL x) :: none :: xp t
  | .inl x :: t => some (vI x) :: xp t
  | .inr (.inr r) :: t => some (.inr (.inr r)) :: xp t
def p1 (st : List PV) (f : Int32 → List PV → PR) : PR := match st with
  | .inl x :: r => f x r
  | _ => none
def p2 (st : List PV) (f : Int32 → Int32 → List PV → PR) : PR := match st with
  | .inl b :: .inl a :: r => f a b r
  | _ => none
def q1 (st : List PV) (f : Int64 → List PV → PR) : PR := match st with
  | .inr (.inl x) :: r => f x r
  | _ => none
def q2 (st : List PV) (f : Int64 → Int64 → List PV → PR) : PR := match st with
  | .inr (.inl b) :: .inr (.inl a) :: r => f a b r
  | _ => none
def a1 (st : List PV) (f : Nat → Nat → Nat → List PV → PR) : PR := match st with
  | .inr (.inr (k, n, a)) :: r => f k n a r
  | _ => none
def gI (ls : PL) (i : Nat) (f : Int32 → PR) : PR := match ls.getD i none with
  | some (.inl x) => f x
  | _ => none
def gL (ls : PL) (i : Nat) (f : Int64 → PR) : PR := match ls.getD i none with
  | some (.inr (.inl x)) => f x
  | _ => none
def gA (ls : PL) (i : Nat) (f : Nat → Nat → Nat → PR) : PR := match ls.getD i none with
  | some (.inr (.inr (k, n, a))) => f k n a
  | _ => none
/-- a long may not lie just below a place that is stored to -/
def noL (ls : PL) (i : Nat) : Bool := match i with
  | 0 => true
  | j + 1 => match ls.getD j none with
    | some (.inr (.inl _)) => false
    | _ => true
def sI (ls : PL) (i : Nat) (v : PV) (f : PL → PR) : PR := bif noL ls i && Nat.blt i ls.length then f (ls.set i (some v)) else none
def sL (ls : PL) (i : Nat) (v : PV) (f : PL → PR) : PR := bif noL ls i && Nat.blt (i + 1) ls.length then f ((ls.set i (some v)).set (i + 1) none) else none
def jp (pc : Nat) (off : Int) (f : Nat → PR) : PR := match (pc : Int) + off with
  | .ofNat t => f t
  | .negSucc _ => none
def br (c : ClassFile.Cond) (a b : Int32) (x y : PR) : PR := match c with
  | .eq => if a = b then x else y
  | .ne => if a = b then y else x
  | .lt => if a < b then x else y
  | .ge => if b ≤ a then x else y
  | .gt => if b < a then x else y
  | .le => if a ≤ b then x else y
def swt (pc : Nat) (dflt : Int) (x : Int32) (f : Nat → PR) : List (Int × Int) → PR
  | [] => jp pc dflt f
  | q :: t => if x = Int32.ofInt q.1 then jp pc q.2 f else swt pc dflt x f t
def tsw : Int → List Int → List (Int × Int)
  | _, [] => []
  | lo, o :: t => (lo, o) :: tsw (lo + 1) t
def bI (x : PR) (f : Int32 → PS → PR) : PR := match x with
  | some (some (.inl r), s) => f r s
  | _ => none
def bL (x : PR) (f : Int64 → PS → PR) : PR := match x with
  | some (some (.inr (.inl r)), s) => f r s
  | _ => none
def bR (x : PR) (f : Nat → Nat → Nat → PS → PR) : PR := match x with
  | some (some (.inr (.inr (k, n, a))), s) => f k n a s
  | _ => none
def bV (x : PR) (f : PS → PR) : PR := match x with
  | some (none, s) => f s
  | _ => none
def cal (k : Nat → PL → List PV → PS → PR) (pc : Nat) (ls : PL) (rest : List PV) (ret : Option FieldType) (res : PR) : PR := match ret with
  | none => bV res (fun s => k (pc + 3) ls rest s)
  | some .int => bI res (fun r s => k (pc + 3) ls (vI r :: rest) s)
  | some .boolean => bI res (fun r s => k (pc + 3) ls (vI r :: rest) s)
  | some .long => bL res (fun r s => k (pc + 3) ls (vL r :: rest) s)
  | some (.array _) => bR res (fun i n a s => k (pc + 3) ls (vR i n a :: rest) s)
  | some (.object _) => bR res (fun i n a s => k (pc + 3) ls (vR i n a :: rest) s)
  | _ => none
/-- the arrays that nobody writes: 0 the script, 1 ABOVE, 2 BODIES -/
def stA : List Int32 := [-1, 0, 0, 2, 1, 3, 0, 4]
def stB : List Int32 := [1, 10, 11, 2, 20, 0, 0, 0, 0, 30, 0, 0, 0, 41, 40, 0, 0, 0, 50, 0, 0, 0, 0, 60, 70, 0, 0, 0, 0, 80, 0, 81]
def roV (E : Nat × (Nat → Int32)) (a i : Nat) : Int32 := match a with
  | 0 => E.2 i
  | 1 => stA.getD i 0
  | _ => stB.getD i 0
def sR (c : Nat) : List (Nat × Nat × Nat × Nat) := match c with
  | 0 => [(29, 32, 2, 1016), (26, 8, 1, 1021)]
  | _ => []
def fget (σ : PS) (ci k a : Nat) (f : PV → PR) : PR := match fk ci k with
  | (0, _) => f (vI (σ.1 a k))
  | (1, _) => f (vI (σ.1 a k))
  | (2, n) => f (vR 2 n (a + 1 + k))
  | (3, n) => f (vR 3 n (a + 1 + k))
  | (4, n) => (match lk orL (a * 100 + k) with
    | some b => f (vR 1 n b)
    | none => none)
  | (5, n) => f (vR 5 n (a + 1 + k))
  | _ => none
def fput (σ : PS) (ci k a : Nat) (x : Int32) (f : PS → PR) : PR := match fk ci k with
  | (0, _) => f (u2 σ.1 a k x, σ.2)
  | (1, _) => if x = 0 ∨ x = 1 then f (u2 σ.1 a k x, σ.2) else none
  | _ => none
def aget (E : Nat × (Nat → Int32)) (σ : PS) (k n a : Nat) (i : Int32) (f : Int32 → PR) : PR := match k with
  | 2 => if ib i n then f (σ.1 a (ix i)) else none
  | 4 => if ib i n then f (roV E a (ix i)) else none
  | _ => none
def aput (σ : PS) (k n a : Nat) (i x : Int32) (f : PS → PR) : PR := match k with
  | 2 => if ib i n then f (u2 σ.1 a (ix i) x, σ.2) else none
  | _ => none
def agetL (σ : PS) (k n a : Nat) (i : Int32) (f : Int64 → PR) : PR := match k with
  | 3 => if ib i n then f (σ.2 a (ix i)) else none
  | _ => none
def aputL (σ : PS) (k n a : Nat) (i : Int32) (x : Int64) (f : PS → PR) : PR := match k with
  | 3 => if ib i n then f (σ.1, u2L σ.2 a (ix i) x) else none
  | _ => none
def agetR (k n a : Nat) (i : Int32) (f : PV → PR) : PR := match k with
  | 5 => if ib i n then f (vR 3 60 (a + 1 + ix i)) else none
  | _ => none
def alen (k n : Nat) (f : Int32 → PR) : PR := match k with
  | 2 => f (Int32.ofNat n)
  | 3 => f (Int32.ofNat n)
  | 4 => f (Int32.ofNat n)
  | 5 => f (Int32.ofNat n)
  | _ => none
def acp (args : List PV) (σ : PS) : PR := match args with
  | [.inr (.inr (2, n0, a)), .inl sp, .inr (.inr (2, n1, b)), .inl dp, .inl n] => if ¬ sp < 0 ∧ ¬ dp < 0 ∧ ¬ n < 0 ∧ ix sp + ix n ≤ n0 ∧ ix dp + ix n ≤ n1 then some (none, (c2 σ.1 a b (ix sp) (ix dp) (ix n), σ.2)) else none
  | [.inr (.inr (3, n0, a)), .inl sp, .inr (.inr (3, n1, b)), .inl dp, .inl n] => if ¬ sp < 0 ∧ ¬ dp < 0 ∧ ¬ n < 0 ∧ ix sp + ix n ≤ n0 ∧ ix dp + ix n ≤ n1 then some (none, (σ.1, c2L σ.2 a b (ix sp) (ix dp) (ix n))) else none
  | _ => none
def calV (cf : Nat → List PV → PS → PR) (k : Nat → PL → List PV → PS → PR) (pc : Nat) (ls : PL) (st : List PV) (σ : PS) (y n : Nat) : PR := match mt0[y]? with
  | some q => bif Nat.blt n st.length && Nat.ble ((st.drop (n + 1)).map wd).sum 8 then
      (match (st.take (n + 1)).reverse with
        | .inr (.inr (1, ci, a)) :: as => bif Nat.beq ci q.2.2.2.2.1 then cal k pc ls (st.drop (n + 1)) q.2.2.2.1 (cf y (vR 1 ci a :: as) σ) else none
        | _ => none)
      else none
  | none => none
def calS (cf : Nat → List PV → PS → PR) (k : Nat → PL → List PV → PS → PR) (pc : Nat) (ls : PL) (st : List PV) (σ : PS) (y n : Nat) : PR := match mt0[y]? with
  | some q => bif Nat.ble n st.length && Nat.ble ((st.drop n).map wd).sum 8 then cal k pc ls (st.drop n) q.2.2.2.1 (cf y (st.take n).reverse σ) else none
  | none => none
def calC (cf : Nat → List PV → PS → PR) (k : Nat → PL → List PV → PS → PR) (pc : Nat) (ls : PL) (st : List PV) (σ : PS) : PR :=
  bif Nat.ble 5 st.length && Nat.ble ((st.drop 5).map wd).sum 8 then bV (cf 999 (st.take 5).reverse σ) (fun s => k (pc + 3) ls (st.drop 5) s) else none
def calM (cf : Nat → List PV → PS → PR) (k : Nat → PL → List PV → PS → PR) (pc : Nat) (ls : PL) (st : List PV) (σ : PS) (y : Nat) : PR :=
  p2 st (fun a b r => bif Nat.ble (r.map wd).sum 8 then bI (cf y [vI a, vI b] σ) (fun x s => k (pc + 3) ls (vI x :: r) s) else none)
def mmx (y : Nat) (args : List PV) (σ : PS) : PR := match args with
  | [.inl a, .inl b] => (match y with
    | 998 => some (some (vI (if a < b then b else a)), σ)
    | 997 => some (some (vI (if b < a then b else a)), σ)
    | _ => none)
  | _ => none
def retI (ret : Option FieldType) (x : Int32) (σ : PS) : PR := match ret with
  | some .int => some (some (vI x), σ)
  | some .boolean => if x = 0 ∨ x = 1 then some (some (vI x), σ) else none
  | _ => none
def retL (ret : Option FieldType) (x : Int64) (σ : PS) : PR := match ret with
  | some .long => some (some (vL x), σ)
  | _ => none
def retA (ret : Option FieldType) (k n a : Nat) (σ : PS) : PR := match ret with
  | some (.array _) => some (some (vR k n a), σ)
  | some (.object _) => some (some (vR k n a), σ)
  | _ => none
def retV (ret : Option FieldType) (σ : PS) : PR := match ret with
  | none => some (none, σ)
  | _ => none
def exI (E : Nat × (Nat → Int32)) (cf : Nat → List PV → PS → PR) (k : Nat → PL → List PV → PS → PR) (q : MI) (pc : Nat) (ls : PL) (st : List PV) (σ : PS) (i : Instr) : PR := match i with
  | .aconst_null => k (pc + 1) ls (vR 0 0 0 :: st) σ
  | .iconst n => k (pc + 1) ls (vI (Int32.ofInt n) :: st) σ
  | .bipush n => k (pc + 2) ls (vI (Int8.ofInt n).toInt32 :: st) σ
  | .sipush n => k (pc + 3) ls (vI (Int16.ofInt n).toInt32 :: st) σ
  | .lconst n => k (pc + 1) ls (vL (Int64.ofNat n.val) :: st) σ
  | .ldc j => (match lk (kR q.2.2.2.2.1) j with
    | some v => k (pc + 2) ls (vI v.1 :: st) σ
    | none => none)
  | .ldc_w j => (match lk (kR q.2.2.2.2.1) j with
    | some v => k (pc + 3) ls (vI v.1 :: st) σ
    | none => none)
  | .ldc2_w j => (match lk (lR q.2.2.2.2.1) j with
    | some v => k (pc + 3) ls (vL v.1 :: st) σ
    | none => none)
  | .iload j => gI ls j (fun x => k (pc + 2) ls (vI x :: st) σ)
  | .iload_n j => gI ls j.val (fun x => k (pc + 1) ls (vI x :: st) σ)
  | .lload j => gL ls j (fun x => k (pc + 2) ls (vL x :: st) σ)
  | .lload_n j => gL ls j.val (fun x => k (pc + 1) ls (vL x :: st) σ)
  | .aload j => gA ls j (fun i n a => k (pc + 2) ls (vR i n a :: st) σ)
  | .aload_n j => gA ls j.val (fun i n a => k (pc + 1) ls (vR i n a :: st) σ)
  | .istore j => p1 st (fun x r => sI ls j (vI x) (fun ls => k (pc + 2) ls r σ))
  | .istore_n j => p1 st (fun x r => sI ls j.val (vI x) (fun ls => k (pc + 1) ls r σ))
  | .lstore j => q1 st (fun x r => sL ls j (vL x) (fun ls => k (pc + 2) ls r σ))
  | .lstore_n j => q1 st (fun x r => sL ls j.val (vL x) (fun ls => k (pc + 1) ls r σ))
  | .astore j => a1 st (fun i n a r => sI ls j (vR i n a) (fun ls => k (pc + 2) ls r σ))
  | .astore_n j => a1 st (fun i n a r => sI ls j.val (vR i n a) (fun ls => k (pc + 1) ls r σ))
  | .iinc j n => gI ls j (fun x => sI ls j (vI (x + Int32.ofInt n)) (fun ls => k (pc + 3) ls st σ))
  | .iadd => p2 st (fun a b r => k (pc + 1) ls (vI (a + b) :: r) σ)
  | .isub => p2 st (fun a b r => k (pc + 1) ls (vI (a - b) :: r) σ)
  | .imul => p2 st (fun a b r => k (pc + 1) ls (vI (a * b) :: r) σ)
  | .iand => p2 st (fun a b r => k (pc + 1) ls (vI (a &&& b) :: r) σ)
  | .ior => p2 st (fun a b r => k (pc + 1) ls (vI (a ||| b) :: r) σ)
  | .ixor => p2 st (fun a b r => k (pc + 1) ls (vI (a ^^^ b) :: r) σ)
  | .idiv => p2 st (fun a b r => if b = 0 then none else k (pc + 1) ls (vI (a / b) :: r) σ)
  | .irem => p2 st (fun a b r => if b = 0 then none else k (pc + 1) ls (vI (rm32 a b) :: r) σ)
  | .ineg => p1 st (fun a r => k (pc + 1) ls (vI (-a) :: r) σ)
  | .ishl => p2 st (fun a b r => k (pc + 1) ls (vI (a <<< (b &&& 31)) :: r) σ)
  | .ishr => p2 st (fun a b r => k (pc + 1) ls (vI (a >>> (b &&& 31)) :: r) σ)
  | .iushr => p2 st (fun a b r => k (pc + 1) ls (vI (us32 a b) :: r) σ)
  | .i2b => p1 st (fun a r => k (pc + 1) ls (vI a.toInt8.toInt32 :: r) σ)
  | .i2s => p1 st (fun a r => k (pc + 1) ls (vI a.toInt16.toInt32 :: r) σ)
  | .i2l => p1 st (fun a r => k (pc + 1) ls (vL a.toInt64 :: r) σ)
  | .l2i => q1 st (fun a r => k (pc + 1) ls (vI a.toInt32 :: r) σ)
  | .ladd => q2 st (fun a b r => k (pc + 1) ls (vL (a + b) :: r) σ)
  | .land => q2 st (fun a b r => k (pc + 1) ls (vL (a &&& b) :: r) σ)
  | .lor => q2 st (fun a b r => k (pc + 1) ls (vL (a ||| b) :: r) σ)
  | .lshl => p1 st (fun b r => q1 r (fun a r => k (pc + 1) ls (vL (a <<< (b.toInt64 &&& 63)) :: r) σ))
  | .lcmp => q2 st (fun a b r => k (pc + 1) ls (vI (lg_cmp a b) :: r) σ)
  | .dup => (match st with
    | v :: r => bif Nat.beq (wd v) 1 then k (pc + 1) ls (v :: v :: r) σ else none
    | _ => none)
  | .dup_x1 => (match st with
    | v :: w :: r => bif Nat.beq (wd v) 1 && Nat.beq (wd w) 1 then k (pc + 1) ls (v :: w :: v :: r) σ else none
    | _ => none)
  | .dup2 => (match st with
    | v :: w :: r => bif Nat.beq (wd v) 1 && Nat.beq (wd w) 1 then k (pc + 1) ls (v :: w :: v :: w :: r) σ else none
    | _ => none)
  | .pop => (match st with
    | v :: r => bif Nat.beq (wd v) 1 then k (pc + 1) ls r σ else none
    | _ => none)
  | .ifCond c off => p1 st (fun a r => jp pc off (fun t => br c a 0 (k t ls r σ) (k (pc + 3) ls r σ)))
  | .if_icmp c off => p2 st (fun a b r => jp pc off (fun t => br c a b (k t ls r σ) (k (pc + 3) ls r σ)))
  | .ifnull off => a1 st (fun i _ _ r => match i with
    | 0 => jp pc off (fun t => k t ls r σ)
    | _ => k (pc + 3) ls r σ)
  | .goto off => jp pc off (fun t => k t ls st σ)
  | .tableswitch dflt lo hi offs => bif Nat.beq offs.size (hi - lo + 1).toNat && decide (-2147483648 ≤ lo ∧ lo ≤ hi ∧ hi < 2147483648) then p1 st (fun x r => swt pc dflt x (fun t => k t ls r σ) (tsw lo offs.toList)) else none
  | .lookupswitch dflt ps => bif (ps.toList.zip (ps.toList.drop 1)).all (fun (a, next) => a.1 < next.1) && ps.toList.all (fun p => decide (-2147483648 ≤ p.1 ∧ p.1 < 2147483648)) then p1 st (fun x r => swt pc dflt x (fun t => k t ls r σ) ps.toList) else none
  | .getfield j => (match lk (fR q.2.2.2.2.1) j with
    | some (ci, s, _) => a1 st (fun i n a r => bif Nat.beq i 1 && Nat.beq n ci then fget σ ci s a (fun v => k (pc + 3) ls (v :: r) σ) else none)
    | none => none)
  | .putfield j => (match lk (fR q.2.2.2.2.1) j with
    | some (ci, s, _) => p1 st (fun x r => a1 r (fun i n a r => bif Nat.beq i 1 && Nat.beq n ci then fput σ ci s a x (fun σ => k (pc + 3) ls r σ) else none))
    | none => none)
  | .getstatic j => (match lk (sR q.2.2.2.2.1) j with
    | some (n, a, _) => k (pc + 3) ls (vR 4 n a :: st) σ
    | none => none)
  | .iaload => p1 st (fun i r => a1 r (fun kd n a r => aget E σ kd n a i (fun x => k (pc + 1) ls (vI x :: r) σ)))
  | .iastore => p2 st (fun i x r => a1 r (fun kd n a r => aput σ kd n a i x (fun σ => k (pc + 1) ls r σ)))
  | .laload => p1 st (fun i r => a1 r (fun kd n a r => agetL σ kd n a i (fun x => k (pc + 1) ls (vL x :: r) σ)))
  | .lastore => q1 st (fun x r => p1 r (fun i r => a1 r (fun kd n a r => aputL σ kd n a i x (fun σ => k (pc + 1) ls r σ))))
  | .aaload => p1 st (fun i r => a1 r (fun kd n a r => agetR kd n a i (fun v => k (pc + 1) ls (v :: r) σ)))
  | .arraylength => a1 st (fun kd n _ r => alen kd n (fun x => k (pc + 1) ls (vI x :: r) σ))
  | .invokevirtual j => (match lk (mR q.2.2.2.2.1) j with
    | some (y, 0, n, _) => calV cf k pc ls st σ y n
    | some (y, 6, n, _) => calV cf k pc ls st σ y n
    | _ => none)
  | .invokestatic j => (match lk (mR q.2.2.2.2.1) j with
    | some (y, 1, n, _) => calS cf k pc ls st σ y n
    | some (y, 2, n, _) => calS cf k pc ls st σ y n
    | some (_, 3, _, _) => calC cf k pc ls st σ
    | some (_, 4, _, _) => calM cf k pc ls st σ 998
    | some (_, 5, _, _) => calM cf k pc ls st σ 997
    | _ => none)
  | .ireturn => (match st with
    | [.inl x] => retI q.2.2.2.1 x σ
    | _ => none)
  | .lreturn => (match st with
    | [.inr (.inl x)] => retL q.2.2.2.1 x σ
    | _ => none)
  | .areturn => (match st with
    | [.inr (.inr (i, n, a))] => retA q.2.2.2.1 i n a σ
    | _ => none)
  | .return_ => (match st with
    | [] => retV q.2.2.2.1 σ
    | _ => none)
  | _ => none
def run1 (E : Nat × (Nat → Int32)) (cf : Nat → List PV → PS → PR) (k : Nat → PL → List PV → PS → PR) (q : MI) (pc : Nat) (ls : PL) (st : List PV) (σ : PS) : PR := match lk q.2.2.2.2.2 pc with
  | some r => exI E cf k q pc ls st σ r.1
  | none => none
def runN (E : Nat × (Nat → Int32)) (cf : Nat → List PV → PS → PR) (q : MI) : Nat → Nat → PL → List PV → PS → PR
  | 0 => fun _ _ _ _ => none
  | n + 1 => fun pc ls st σ => run1 E cf (runN E cf q n) q pc ls st σ
def lcl (q : MI) (args : List PV) : PL := xp args ++ List.replicate (q.2.2.1 - (xp args).length) none
def evM (E : Nat × (Nat → Int32)) : Nat → Nat → Nat → List PV → PS → PR
  | 0 => fun _ _ _ _ => none
  | d + 1 => fun F y args σ => bif Nat.beq y 999 then acp args σ else bif Nat.beq y 998 || Nat.beq y 997 then mmx y args σ else match mt0[y]? with
    | some q => bif Nat.ble (xp args).length q.2.2.1 then runN E (evM E d F) q F 0 (lcl q args) [] σ else none
    | none => none
