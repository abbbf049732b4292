/-! the constructors' machine, and what its cells stand for -/
def ixB : BW → Nat → Option (Nat × BE)
  | [], _ => none
  | (c, e) :: t, a => bif Nat.beq c a then some (0, e) else match ixB t a with
    | some (i, x) => some (i + 1, x)
    | none => none
def dflt (ci : Nat) : List BV := (fkL.getD ci []).map (fun r => match r.1 with
  | 0 => .inl 0
  | 1 => .inl 0
  | _ => .inr none)
abbrev KBo : Type := Nat → BL → List BV → BW → Nat → Nat → Nat → BR
abbrev CBo : Type := Nat → Nat → List BV → Nat → BR
def lsB (ls : BL) (j : Nat) (v : BV) : BL := (j, v) :: ls.filter (fun q => !(q.1 == j))
def bI1 (st : List BV) (f : Int32 → List BV → BR) : BR := match st with
  | .inl x :: r => f x r
  | _ => none
def bR1 (st : List BV) (f : Nat → List BV → BR) : BR := match st with
  | .inr (some a) :: r => f a r
  | _ => none
def bV1 (st : List BV) (f : BV → List BV → BR) : BR := match st with
  | v :: r => f v r
  | _ => none
def bO1 {α : Type} (o : Option α) (f : α → BR) : BR := match o with
  | some a => f a
  | none => none
def bObj (e : BE) (f : Nat → List BV → BR) : BR := match e with
  | .inl (ci, fs) => f ci fs
  | _ => none
def bArr (e : BE) (f : Nat → Nat → List (Nat × Int32) → BR) : BR := match e with
  | .inr (2, n, b, ov) => f n b ov
  | _ => none
def jpB (pc : Nat) (off : Int) (f : Nat → BR) : BR := match (pc : Int) + off with
  | .ofNat t => f t
  | .negSucc _ => none
def okP (ci sl : Nat) (v : BV) : Bool := match v with
  | .inl _ => Nat.beq (fk ci sl).1 0
  | .inr _ => Nat.ble 2 (fk ci sl).1 && Nat.ble (fk ci sl).1 5
def eqV : List BV → List BV → Bool
  | [], [] => true
  | .inl x :: s, .inl y :: t => decide (x = y) && eqV s t
  | .inr none :: s, .inr none :: t => eqV s t
  | _, _ => false
def isDf (g : Nat × BE) (o ci : Nat) : Bool := match g with
  | (a, .inl (c, fs)) => Nat.beq a o && Nat.beq c ci && eqV fs (dflt ci)
  | _ => false
def exB (call : CBo) (k : KBo) (q : BI) (pc : Nat) (ls : BL) (st : List BV) (w : BW) (nx cc ss : Nat) (i : Instr) : BR := match i with
  | .iconst n => k (pc + 1) ls (.inl (Int32.ofInt n) :: st) w nx cc ss
  | .bipush n => k (pc + 2) ls (.inl (Int8.ofInt n).toInt32 :: st) w nx cc ss
  | .sipush n => k (pc + 3) ls (.inl (Int16.ofInt n).toInt32 :: st) w nx cc ss
  | .aload_n j => bO1 (lk ls j) fun v => bR1 [v] fun a _ => k (pc + 1) ls (.inr (some a) :: st) w nx cc ss
  | .iload_n j => bO1 (lk ls j) fun v => bI1 [v] fun x _ => k (pc + 1) ls (.inl x :: st) w nx cc ss
  | .istore_n j => bI1 st fun x r => bif Nat.blt j q.1.2.2.1 then k (pc + 1) (lsB ls j (.inl x)) r w nx cc ss else none
  | .iinc j n => bO1 (lk ls j) fun v => bI1 [v] fun x _ => bif Nat.blt j q.1.2.2.1 then k (pc + 3) (lsB ls j (.inl (x + Int32.ofInt n))) st w nx cc ss else none
  | .dup => bV1 st fun v r => k (pc + 1) ls (v :: v :: r) w nx cc ss
  | .goto off => jpB pc off fun t => k t ls st w nx cc ss
  | .if_icmp cd off => (match cd with
    | .ge => bI1 st fun y r => bI1 r fun x r => jpB pc off fun t => bif decide (y ≤ x) then k t ls r w nx cc ss else k (pc + 3) ls r w nx cc ss
    | _ => none)
  | .getfield j => bR1 st fun a r => bO1 (ixB w a) fun ie => bObj ie.2 fun ci fs => bO1 (lk (fR q.1.2.2.2.2.1) j) fun f => bif Nat.beq f.1 ci && !f.2.2.1 then bO1 (fs[f.2.1]?) fun v => k (pc + 3) ls (v :: r) w nx cc ss else none
  | .putfield j => bV1 st fun v r => bR1 r fun a r => bO1 (ixB w a) fun ie => bObj ie.2 fun ci fs => bO1 (lk (fR q.1.2.2.2.2.1) j) fun f => bif Nat.beq f.1 ci && !f.2.2.1 && okP ci f.2.1 v && Nat.blt f.2.1 fs.length && Nat.beq ci q.1.2.2.2.2.1 then k (pc + 3) ls r (w.set ie.1 (a, .inl (ci, fs.set f.2.1 v))) nx cc ss else none
  | .iastore => bI1 st fun x r => bI1 r fun i r => bR1 r fun a r => bO1 (ixB w a) fun ie => bArr ie.2 fun n b ov => bif decide (ib i n) then k (pc + 1) ls r (w.set ie.1 (a, .inr (2, n, b, (ix i, x) :: ov))) nx cc ss else none
  | .newarray t => bI1 st fun x r => bif decide (0 ≤ x.toInt) && Nat.ble (ix x * 8) 536870912 && Nat.ble (cc + 1) q.2.1 && Nat.ble (ss + ix x) q.2.2.1 then (match t with
    | .int => k (pc + 2) ls (.inr (some nx) :: r) (w ++ [(nx, .inr (2, ix x, 0, []))]) (nx + 1) (cc + 1) (ss + ix x)
    | .long => k (pc + 2) ls (.inr (some nx) :: r) (w ++ [(nx, .inr (3, ix x, 0, []))]) (nx + 1) (cc + 1) (ss + ix x)
    | _ => none) else none
  | .new j => bO1 (lk (bN q.1.2.2.2.2.1) j) fun f => bif Nat.ble (cc + 1) q.2.1 && Nat.ble (ss + fN f.1) q.2.2.1 then k (pc + 3) ls (.inr (some nx) :: st) (w ++ [(nx, .inl (f.1, dflt f.1))]) (nx + 1) (cc + 1) (ss + fN f.1) else none
  | .invokespecial j => (match lk (bO q.1.2.2.2.2.1) j with
    | some _ => bR1 st fun _ r => bif Nat.ble r.length 8 then k (pc + 3) ls r w nx cc ss else none
    | none => bO1 (lk (bC q.1.2.2.2.2.1) j) fun f => bO1 (bt[f.1]?) fun y => bR1 (st.drop f.2.2.1) fun o r => bO1 w.getLast? fun g => bif isDf g o y.1.2.2.2.2.1 && Nat.ble f.2.2.1 st.length && Nat.ble r.length 8 && Nat.ble (cc + y.2.1) q.2.1 && Nat.ble (ss + y.2.2.1) q.2.2.1 then bO1 (call f.1 o (st.take f.2.2.1).reverse nx) fun z => k (pc + 3) ls r (w.dropLast ++ z.1) z.2 (cc + y.2.1) (ss + y.2.2.1) else none)
  | .multianewarray j d => bI1 st fun b r => bI1 r fun a r => bif decide (0 < a.toInt) && decide (0 ≤ b.toInt) && Nat.beq d 2 && Nat.beq j 18 && Nat.beq q.1.2.2.2.2.1 6 && Nat.ble (ix a * 8) 536870912 && Nat.ble (ix b * 8) 536870912 && Nat.ble (cc + 1 + ix a) q.2.1 && Nat.ble (ss + ix a + ix a * ix b) q.2.2.1 then k (pc + 4) ls (.inr (some nx) :: r) (w ++ (nx, .inr (5, ix a, nx + 1, [])) :: (List.range (ix a)).map (fun i => (nx + 1 + i, .inr (3, ix b, 0, [])))) (nx + 1 + ix a) (cc + 1 + ix a) (ss + ix a + ix a * ix b) else none
  | .return_ => bif st.isEmpty then some (w, nx) else none
  | _ => none
def runB (call : CBo) (q : BI) : Nat → KBo
  | 0 => fun _ _ _ _ _ _ _ => none
  | F + 1 => fun pc ls st w nx cc ss => match lk q.1.2.2.2.2.2 pc with
    | some il => exB call (runB call q F) q pc ls st w nx cc ss il.1
    | none => none
def enB : Nat → List BV → BL
  | _, [] => []
  | i, v :: t => (i, v) :: enB (i + 1) t
def evB : Nat → Nat → CBo
  | 0, _ => fun _ _ _ _ => none
  | d + 1, F => fun y o as nx => match bt[y]? with
    | some q => bif Nat.beq as.length q.2.2.2.2 then runB (evB d F) q F 0 (enB 0 (.inr (some o) :: as)) [] [(o, .inl (q.1.2.2.2.2.1, dflt q.1.2.2.2.2.1))] nx 0 0 else none
    | none => none
