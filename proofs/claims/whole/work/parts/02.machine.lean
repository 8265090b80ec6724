/-! THE ABSTRACT MACHINE: a method's bytecode over numbers (Int, kept in range), cells by their places, one memory -/
abbrev AV : Type := Int ⊕ (Int ⊕ Option (Nat × Nat × Nat))
abbrev Mem : Type := (Nat → Nat → Int) × ((Nat → Nat → Nat) × Nat)
abbrev Lc : Type := List (Nat × AV)
abbrev Rs : Type := Option (Int × Mem)
abbrev Ky : Type := Nat → Lc → List AV → Mem → Rs
abbrev Cy : Type := Nat → List AV → Mem → Rs
abbrev vi (z : Int) : AV := .inl z
abbrev vl (z : Int) : AV := .inr (.inl z)
abbrev vr (t n o : Nat) : AV := .inr (.inr (some (t, n, o)))
abbrev vn : AV := .inr (.inr none)
def rI (σ : Mem) (o k : Nat) : Int := σ.1 o k
def rP (σ : Mem) (o k : Nat) : Nat := σ.2.1 o k
def rN (σ : Mem) : Nat := σ.2.2
def wI (σ : Mem) (o k : Nat) (v : Int) : Mem := (fun a b => if a = o ∧ b = k then v else σ.1 a b, σ.2)
def wP (σ : Mem) (o k v : Nat) : Mem := (σ.1, (fun a b => if a = o ∧ b = k then v else σ.2.1 a b, σ.2.2))
def rQ (σ : Mem) (o k : Nat) : Nat := σ.2.1 o k - 1
def wQ (σ : Mem) (o k v : Nat) : Mem := (σ.1, (fun a b => if a = o ∧ b = k then v + 1 else σ.2.1 a b, σ.2.2))
def wN (σ : Mem) (n : Nat) : Mem := (σ.1, (σ.2.1, n))
def cpI (σ : Mem) (s sp d dp n : Nat) : Mem := (fun a b => if a = d ∧ dp ≤ b ∧ b < dp + n then σ.1 s (sp + (b - dp)) else σ.1 a b, σ.2)
/-- the rows of a new int[n][m] at o, from k on -/
def wRows (σ : Mem) (o : Nat) (n : Nat) : Mem := (σ.1, (fun a b => if a = o ∧ b < n then o + 2 + b else σ.2.1 a b, σ.2.2 + 1 + n))
def w32 (z : Int) : Int := (z + 2147483648) % 4294967296 - 2147483648
def w64 (z : Int) : Int := (z + 9223372036854775808) % 18446744073709551616 - 9223372036854775808
def iAnd (a b : Int) : Int := (Int32.ofInt a &&& Int32.ofInt b).toInt
def iOr (a b : Int) : Int := (Int32.ofInt a ||| Int32.ofInt b).toInt
def iXor (a b : Int) : Int := (Int32.ofInt a ^^^ Int32.ofInt b).toInt
def iShl (a b : Int) : Int := (Int32.ofInt a <<< (Int32.ofInt b &&& 31)).toInt
def iShr (a b : Int) : Int := (Int32.ofInt a >>> (Int32.ofInt b &&& 31)).toInt
def iUshr (a b : Int) : Int := (((Int32.ofInt a).toUInt32 >>> ((Int32.ofInt b).toUInt32 &&& Int32.toUInt32 31)).toInt32).toInt
def iDiv (a b : Int) : Int := (Int32.ofInt a / Int32.ofInt b).toInt
def iRem (a b : Int) : Int := (Int32.ofInt a - Int32.ofInt a / Int32.ofInt b * Int32.ofInt b).toInt
def lAnd (a b : Int) : Int := (Int64.ofInt a &&& Int64.ofInt b).toInt
def lDiv (a b : Int) : Int := (Int64.ofInt a / Int64.ofInt b).toInt
def lRem (a b : Int) : Int := (Int64.ofInt a - Int64.ofInt a / Int64.ofInt b * Int64.ofInt b).toInt
def lCmp (a b : Int) : Int := if a < b then -1 else if a = b then 0 else 1
def lkL (i : Nat) : Lc → Option AV
  | [] => none
  | (k, v) :: l => bif Nat.beq k i then some v else lkL i l
def pkL : List Nat → Lc → Lc
  | [], _ => []
  | i :: is, ls => match lkL i ls with
    | none => pkL is ls
    | some v => (i, v) :: pkL is ls
def nrm (lab : Option (List Nat)) (ls : Lc) : Lc := match lab with
  | none => ls
  | some is => pkL is ls
def cat2 : AV → Bool
  | .inr (.inl _) => true
  | _ => false
def st1 (i : Nat) (v : AV) (ls : Lc) : Lc := (i, v) :: ls.filter (fun q => !(q.1 == i) && !(q.1 + 1 == i && cat2 q.2))
def st2 (i : Nat) (v : AV) (ls : Lc) : Lc := (i, v) :: ls.filter (fun q => !(q.1 == i) && (!(q.1 == i + 1) && !(q.1 + 1 == i && cat2 q.2)))
def argL : Nat → List AV → Lc
  | _, [] => []
  | i, v :: r => (i, v) :: argL (bif cat2 v then i + 2 else i + 1) r
def sumC : List AV → Nat
  | [] => 0
  | v :: r => (bif cat2 v then 2 else 1) + sumC r
def okR (r : List AV) : Bool := Nat.ble (sumC r) 8
/-- a constructor -/
def isIni (j : Nat) : Bool := match ctGet metL j with
  | some (_, rt, _, _) => Nat.beq rt 4
  | none => false
/-- no argument is the script -/
def okA : List AV → Bool
  | [] => true
  | .inr (.inr (some (23, _, _))) :: _ => false
  | _ :: r => okA r
def pI (st : List AV) (k : Int → List AV → Rs) : Rs := match st with
  | .inl a :: r => k a r
  | _ => none
def pII (st : List AV) (k : Int → Int → List AV → Rs) : Rs := match st with
  | .inl b :: .inl a :: r => k a b r
  | _ => none
def pL (st : List AV) (k : Int → List AV → Rs) : Rs := match st with
  | .inr (.inl a) :: r => k a r
  | _ => none
def pLL (st : List AV) (k : Int → Int → List AV → Rs) : Rs := match st with
  | .inr (.inl b) :: .inr (.inl a) :: r => k a b r
  | _ => none
def pR (st : List AV) (k : Nat → Nat → Nat → List AV → Rs) : Rs := match st with
  | .inr (.inr (some (t, n, o))) :: r => k t n o r
  | _ => none
def ldI (v : Option AV) (k : Int → Rs) : Rs := match v with
  | some (.inl a) => k a
  | _ => none
def ldL (v : Option AV) (k : Int → Rs) : Rs := match v with
  | some (.inr (.inl a)) => k a
  | _ => none
def ldA (v : Option AV) (k : Option (Nat × Nat × Nat) → Rs) : Rs := match v with
  | some (.inr (.inr q)) => k q
  | _ => none
def br (pc : Nat) (off : Int) : Nat := ((pc : Int) + off).toNat
/-- a comparison: c between a and b -/
def ifC (c : ClassFile.Cond) (a b : Int) (t e : Rs) : Rs := match c with
  | .eq => if a = b then t else e
  | .ne => if a = b then e else t
  | .lt => if a < b then t else e
  | .ge => if a < b then e else t
  | .gt => if b < a then t else e
  | .le => if b < a then e else t
/-- where a table of jumps goes: k is the number of the first -/
def swT (x : Int) (d : Rs) (go : Int → Rs) : List Int → Int → Rs
  | [], _ => d
  | o :: os, k => if x = k then go o else swT x d go os (k + 1)
def swL (x : Int) (d : Rs) (go : Int → Rs) : List (Int × Int) → Rs
  | [] => d
  | (k, o) :: os => if x = k then go o else swL x d go os
def pushR (rk : Nat) (z : Int) (st : List AV) : List AV := match rk with
  | 0 => st
  | 1 => .inl z :: st
  | _ => .inr (.inl z) :: st
def inB (i : Int) (n : Nat) (t : Rs) : Rs := if 0 ≤ i ∧ i < (n : Int) then t else none
/-- a field that is read: its kind, tag, length, how far from its object's place (on, back) -/
def getF (ph : Bool) (q : Nat × Nat × Nat × Nat × Nat) (σ : Mem) (o k : Nat) : AV := match q with
  | (0, _) => .inl (rI σ o k)
  | (1, _) => .inr (.inl (rI σ o k))
  | (2, _) => .inl (rI σ o k)
  | (3, t, n, _, _) => bif ph then vr t n (rQ σ o k) else match rP σ o k with
    | 0 => vn
    | a + 1 => vr t n a
  | (_, t, n, p, m) => bif ph then vr t n (o + p - m) else match rP σ o k with
    | 0 => vn
    | a + 1 => vr t n a
/-- a field that is written: an int kind, or a reference -/
def putF (ph fin : Bool) (q : Nat × Nat × Nat × Nat × Nat) (σ : Mem) (o k : Nat) (v : AV) (go : Mem → Rs) : Rs := match q, v with
  | (0, _), .inl z => go (wI σ o k z)
  | (1, _), .inr (.inl z) => go (wI σ o k z)
  | (2, _), .inl z => if z = 0 ∨ z = 1 then go (wI σ o k z) else none
  | (3, t, n, _, _), .inr (.inr (some (t', n', a))) => bif Nat.beq t t' && Nat.beq n n' then go (wQ σ o k a) else none
  | (4, t, n, _, _), .inr (.inr (some (t', n', a))) => bif (fin && !ph) && (Nat.beq t t' && Nat.beq n n') then go (wQ σ o k a) else none
  | _, _ => none
def newR (tag n o : Nat) (st : List AV) : List AV := vr tag n o :: st
/-- one instruction: R goes on in the method, C is a call -/
def stepI (ph : Bool) (xs : Nat → Int) (L w rt : Nat) (R : Ky) (C : Cy) (i : Instr) (pc n : Nat) (ls : Lc) (st : List AV) (σ : Mem) : Rs := match i with
  | .iconst v => R (pc + n) ls (.inl v :: st) σ
  | .bipush v => R (pc + n) ls (.inl v :: st) σ
  | .sipush v => R (pc + n) ls (.inl v :: st) σ
  | .lconst v => R (pc + n) ls (vl ((v : Nat) : Int) :: st) σ
  | .aconst_null => R (pc + n) ls (vn :: st) σ
  | .ldc k => match cstT w k with
    | some (0, z) => R (pc + n) ls (.inl z :: st) σ
    | some (1, _) => R (pc + n) ls (vr 24 0 0 :: st) σ
    | _ => none
  | .ldc_w k => match cstT w k with
    | some (0, z) => R (pc + n) ls (.inl z :: st) σ
    | _ => none
  | .ldc2_w k => match cstT w k with
    | some (2, z) => R (pc + n) ls (vl z :: st) σ
    | _ => none
  | .iload_n k => ldI (lkL k ls) fun a => R (pc + n) ls (.inl a :: st) σ
  | .iload k => ldI (lkL k ls) fun a => R (pc + n) ls (.inl a :: st) σ
  | .lload_n k => ldL (lkL k ls) fun a => R (pc + n) ls (vl a :: st) σ
  | .lload k => ldL (lkL k ls) fun a => R (pc + n) ls (vl a :: st) σ
  | .aload_n k => ldA (lkL k ls) fun a => R (pc + n) ls (.inr (.inr a) :: st) σ
  | .aload k => ldA (lkL k ls) fun a => R (pc + n) ls (.inr (.inr a) :: st) σ
  | .istore_n k => pI st fun a r => R (pc + n) (st1 k (.inl a) ls) r σ
  | .istore k => pI st fun a r => R (pc + n) (st1 k (.inl a) ls) r σ
  | .lstore_n k => pL st fun a r => R (pc + n) (st2 k (vl a) ls) r σ
  | .lstore k => pL st fun a r => R (pc + n) (st2 k (vl a) ls) r σ
  | .astore_n k => pR st fun t m o r => R (pc + n) (st1 k (vr t m o) ls) r σ
  | .astore k => pR st fun t m o r => R (pc + n) (st1 k (vr t m o) ls) r σ
  | .iinc k v => ldI (lkL k ls) fun a => R (pc + n) (st1 k (.inl (w32 (a + v))) ls) st σ
  | .iadd => pII st fun a b r => R (pc + n) ls (.inl (w32 (a + b)) :: r) σ
  | .isub => pII st fun a b r => R (pc + n) ls (.inl (w32 (a - b)) :: r) σ
  | .imul => pII st fun a b r => R (pc + n) ls (.inl (w32 (a * b)) :: r) σ
  | .ineg => pI st fun a r => R (pc + n) ls (.inl (w32 (-a)) :: r) σ
  | .iand => pII st fun a b r => R (pc + n) ls (.inl (iAnd a b) :: r) σ
  | .ior => pII st fun a b r => R (pc + n) ls (.inl (iOr a b) :: r) σ
  | .ixor => pII st fun a b r => R (pc + n) ls (.inl (iXor a b) :: r) σ
  | .ishl => pII st fun a b r => R (pc + n) ls (.inl (iShl a b) :: r) σ
  | .ishr => pII st fun a b r => R (pc + n) ls (.inl (iShr a b) :: r) σ
  | .iushr => pII st fun a b r => R (pc + n) ls (.inl (iUshr a b) :: r) σ
  | .idiv => pII st fun a b r => if b = 0 then none else R (pc + n) ls (.inl (iDiv a b) :: r) σ
  | .irem => pII st fun a b r => if b = 0 then none else R (pc + n) ls (.inl (iRem a b) :: r) σ
  | .i2l => pI st fun a r => R (pc + n) ls (vl a :: r) σ
  | .l2i => pL st fun a r => R (pc + n) ls (.inl (w32 a) :: r) σ
  | .ladd => pLL st fun a b r => R (pc + n) ls (vl (w64 (a + b)) :: r) σ
  | .lsub => pLL st fun a b r => R (pc + n) ls (vl (w64 (a - b)) :: r) σ
  | .lmul => pLL st fun a b r => R (pc + n) ls (vl (w64 (a * b)) :: r) σ
  | .land => pLL st fun a b r => R (pc + n) ls (vl (lAnd a b) :: r) σ
  | .ldiv => pLL st fun a b r => if b = 0 then none else R (pc + n) ls (vl (lDiv a b) :: r) σ
  | .lrem => pLL st fun a b r => if b = 0 then none else R (pc + n) ls (vl (lRem a b) :: r) σ
  | .lcmp => pLL st fun a b r => R (pc + n) ls (.inl (lCmp a b) :: r) σ
  | .dup => match st with
    | v :: r => bif cat2 v then none else R (pc + n) ls (v :: v :: r) σ
    | _ => none
  | .pop => match st with
    | v :: r => bif cat2 v then none else R (pc + n) ls r σ
    | _ => none
  | .dup2 => match st with
    | v :: u :: r => bif cat2 v then R (pc + n) ls (v :: v :: u :: r) σ else bif cat2 u then none else R (pc + n) ls (v :: u :: v :: u :: r) σ
    | [v] => bif cat2 v then R (pc + n) ls [v, v] σ else none
    | _ => none
  | .goto off => R (br pc off) ls st σ
  | .ifCond c off => pI st fun a r => ifC c a 0 (R (br pc off) ls r σ) (R (pc + n) ls r σ)
  | .if_icmp c off => pII st fun a b r => ifC c a b (R (br pc off) ls r σ) (R (pc + n) ls r σ)
  | .ifnull off => match st with
    | .inr (.inr none) :: r => R (br pc off) ls r σ
    | .inr (.inr (some _)) :: r => R (pc + n) ls r σ
    | _ => none
  | .tableswitch d lo hi offs => pI st fun a r => bif offs.toList.length == (hi - lo + 1).toNat && decide (lo ≤ hi) then swT a (R (br pc d) ls r σ) (fun o => R (br pc o) ls r σ) offs.toList lo else none
  | .lookupswitch d ps => pI st fun a r => bif (ps.toList.zip (ps.toList.drop 1)).all (fun (a, next) => a.1 < next.1) then swL a (R (br pc d) ls r σ) (fun o => R (br pc o) ls r σ) ps.toList else none
  | .getfield k => pR st fun t _ o r => match fldT w k with
    | some (c, f) => bif Nat.beq t c then R (pc + n) ls (getF ph (fkT c f) σ o f :: r) σ else none
    | none => none
  | .putfield k => match st with
    | v :: .inr (.inr (some (t, _, o))) :: r => match fldT w k with
      | some (c, f) => bif Nat.beq t c then putF ph (Nat.beq rt 4 && Nat.beq c w) (fkT c f) σ o f v fun σ' => R (pc + n) ls r σ' else none
      | none => none
    | _ => none
  | .arraylength => pR st fun t m _ r => match t with
    | 23 => R (pc + n) ls (.inl (L : Int) :: r) σ
    | 20 => R (pc + n) ls (.inl (m : Int) :: r) σ
    | 21 => R (pc + n) ls (.inl (m : Int) :: r) σ
    | 22 => R (pc + n) ls (.inl (m : Int) :: r) σ
    | _ => none
  | .iaload => match st with
    | .inl i :: .inr (.inr (some (20, m, o))) :: r => inB i m (R (pc + n) ls (.inl (rI σ o i.toNat) :: r) σ)
    | .inl i :: .inr (.inr (some (23, _, _))) :: r => inB i L (R (pc + n) ls (.inl (xs i.toNat) :: r) σ)
    | _ => none
  | .caload => match st with
    | .inl i :: .inr (.inr (some (22, m, o))) :: r => inB i m (R (pc + n) ls (.inl (rI σ o i.toNat) :: r) σ)
    | _ => none
  | .laload => match st with
    | .inl i :: .inr (.inr (some (21, m, o))) :: r => inB i m (R (pc + n) ls (vl (rI σ o i.toNat) :: r) σ)
    | _ => none
  | .aaload => match st with
    | .inl i :: .inr (.inr (some (t, m, o))) :: r => match innT t with
      | some q => inB i m (bif ph then R (pc + n) ls (vr 20 q (o + 1 + i.toNat) :: r) σ else none)
      | none => none
    | _ => none
  | .iastore => match st with
    | .inl v :: .inl i :: .inr (.inr (some (20, m, o))) :: r => inB i m (R (pc + n) ls r (wI σ o i.toNat v))
    | _ => none
  | .castore => match st with
    | .inl v :: .inl i :: .inr (.inr (some (22, m, o))) :: r => if 0 ≤ v ∧ v < 65536 then inB i m (R (pc + n) ls r (wI σ o i.toNat v)) else none
    | _ => none
  | .lastore => match st with
    | .inr (.inl v) :: .inl i :: .inr (.inr (some (21, m, o))) :: r => inB i m (R (pc + n) ls r (wI σ o i.toNat v))
    | _ => none
  | .new k => match newT w k with
    | some c => bif !ph && cellAt (rN σ) c 0 then R (pc + n) ls (vr c 0 (rN σ) :: st) (wN σ (rN σ + 1)) else none
    | none => none
  | .newarray ty => pI st fun a r => bif !ph && (decide (0 ≤ a) && cellAt (rN σ) (tyT ty) a.toNat) then R (pc + n) ls (vr (tyT ty) a.toNat (rN σ) :: r) (wN σ (rN σ + 1)) else none
  | .multianewarray k 2 => pII st fun a b r => match mulT w k with
    | some t => bif !ph && (decide (0 ≤ a) && (decide (0 ≤ b) && rowsAt (rN σ) t a.toNat b.toNat)) then R (pc + n) ls (vr t a.toNat (rN σ) :: r) (wRows σ (rN σ) a.toNat) else none
    | none => none
  | .invokestatic k => match mthT w k with
    | some (903, _) => match st with
      | .inl z :: .inl dp :: .inr (.inr (some (20, dn, d))) :: .inl sp :: .inr (.inr (some (20, sn, s))) :: r => bif !(okR r) then none else if (0 ≤ z ∧ 0 ≤ sp ∧ 0 ≤ dp) ∧ sp + z ≤ (sn : Int) ∧ dp + z ≤ (dn : Int) then R (pc + n) ls r (cpI σ s sp.toNat d dp.toNat z.toNat) else none
      | _ => none
    | some (j, na, rk, 99) => bif Nat.ble na st.length && (okR (st.drop na) && okA (st.take na)) then (C j (st.take na).reverse σ).bind fun p => R (pc + n) ls (pushR rk p.1 (st.drop na)) p.2 else none
    | _ => none
  | .invokevirtual k => match mthT w k with
    | some (j, na, rk, c) => match st.drop (na - 1) with
      | .inr (.inr (some (t, _, _))) :: r => bif (Nat.beq t c && !(isIni j)) && (okR r && okA (st.take na)) then (C j (st.take na).reverse σ).bind fun p => R (pc + n) ls (pushR rk p.1 r) p.2 else none
      | _ => none
    | none => none
  | .invokespecial k => match mthT w k with
    | some (902, _) => pR st fun _ _ _ r => bif okR r then R (pc + n) ls r σ else none
    | some (j, na, rk, c) => match st.drop (na - 1) with
      | .inr (.inr (some (t, _, _))) :: r => bif (Nat.beq t c && isIni j) && (okR r && okA (st.take na)) then (C j (st.take na).reverse σ).bind fun p => R (pc + n) ls (pushR rk p.1 r) p.2 else none
      | _ => none
    | none => none
  | .return_ => match rt, st with
    | 0, [] => some (0, σ)
    | 4, [] => some (0, σ)
    | _, _ => none
  | .ireturn => match rt, st with
    | 1, [.inl a] => some (a, σ)
    | 3, [.inl a] => if a = 0 ∨ a = 1 then some (a, σ) else none
    | _, _ => none
  | .lreturn => match rt, st with
    | 2, [.inr (.inl a)] => some (a, σ)
    | _, _ => none
  | _ => none
def stepF (ph : Bool) (xs : Nat → Int) (L w rt : Nat) (cd : CT Ent) (R : Ky) (C : Cy) : Ky := fun pc ls st σ => match ctGet cd pc with
  | none => none
  | some (i, n, lab) => stepI ph xs L w rt R C i pc n (nrm lab ls) st σ
def execF (ph : Bool) (xs : Nat → Int) (L w rt : Nat) (cd : CT Ent) (C : Cy) : Nat → Ky
  | 0 => fun _ _ _ _ => none
  | k + 1 => stepF ph xs L w rt cd (execF ph xs L w rt cd C k) C
def labAt (cd : CT Ent) (pc : Nat) : Option (List Nat) := match ctGet cd pc with
  | none => none
  | some (_, _, lab) => lab
/-- what the method comes to, however many steps it takes -/
noncomputable def runF (ph : Bool) (xs : Nat → Int) (L w rt : Nat) (cd : CT Ent) (C : Cy) : Ky := fun pc ls st σ =>
  @dite Rs (∃ r, ∃ k, execF ph xs L w rt cd C k pc ls st σ = some r) (Classical.propDecidable _) (fun h => some (Classical.choose h)) (fun _ => none)
/-- n steps at the most, up to a label -/
noncomputable def treeF (ph : Bool) (xs : Nat → Int) (L w rt : Nat) (cd : CT Ent) (C : Cy) : Nat → Ky
  | 0 => runF ph xs L w rt cd C
  | k + 1 => stepF ph xs L w rt cd (fun pc ls st σ => match labAt cd pc with
    | none => treeF ph xs L w rt cd C k pc ls st σ
    | some is => runF ph xs L w rt cd C pc (pkL is ls) st σ) C
