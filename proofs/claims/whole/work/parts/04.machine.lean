/-! THE SMALL MACHINE: whole numbers, cells by number; a method's blocks; its runs as a function -/
abbrev mV : Type := Int ⊕ (Option Nat) ⊕ Int ⊕ UInt64 ⊕ Unit
abbrev vi (x : Int) : mV := .inl x
abbrev vr (k : Nat) : mV := .inr (.inl (some k))
abbrev vn : mV := .inr (.inl none)
abbrev vl (x : Int) : mV := .inr (.inr (.inl x))
abbrev vd (x : UInt64) : mV := .inr (.inr (.inr (.inl x)))
abbrev vj : mV := .inr (.inr (.inr (.inr ())))
/-- a cell's shape: kind (0 a thing of a made type, 1 ints, 2 chars, 3 longs, 4 doubles, 5 ints that nobody writes, 6 the script), number (of the type; length), fields (none: a number) -/
abbrev mSh : Type := Nat × Nat × List (Option (Option Nat))
abbrev mM : Type := Nat → Nat → Int
abbrev mS : Type := List mSh × mM
abbrev mSt : Type := List mV × List mV × mS
/-- kind, instruction, a, b, place of its word, more -/
abbrev mI : Type := Nat × Instr × Nat × Nat × Nat × List Nat
abbrev mB : Type := Nat × List Bool × List mI
abbrev mO : Type := Option mV ⊕ Nat
abbrev mR : Type := Option (mO × mS)
def wr (x : Int) : Int := Int.bmod x 4294967296
def mset (M : mM) (k j : Nat) (x : Int) : mM := fun a b => if a = k ∧ b = j then x else M a b
def c2 : mV → Bool
  | .inr (.inr (.inl _)) => true
  | .inr (.inr (.inr (.inl _))) => true
  | _ => false
def c2sum (S : List mV) : Nat := (S.map fun v => match c2 v with
  | true => 2
  | false => 1).sum
def c2at (L : List mV) (n : Nat) : Bool := match n with
  | 0 => false
  | k + 1 => match L[k]? with
    | some v => c2 v
    | none => false
def stI (L : List mV) (n : Nat) (v : mV) : Option (List mV) := match decide (n < L.length) && !(c2at L n) with
  | true => some (L.set n v)
  | false => none
def stD (L : List mV) (n : Nat) (v : mV) : Option (List mV) := match decide (n + 1 < L.length) && !(c2at L n) with
  | true => some ((L.set n v).set (n + 1) vj)
  | false => none
def ldn (L : List mV) (S : List mV) (σ : mS) (n : Nat) : Option mSt := match L[n]? with
  | some (.inl x) => some (L, vi x :: S, σ)
  | _ => none
def lda (L : List mV) (S : List mV) (σ : mS) (n : Nat) : Option mSt := match L[n]? with
  | some (.inr (.inl r)) => some (L, (.inr (.inl r)) :: S, σ)
  | _ => none
def ldd (L : List mV) (S : List mV) (σ : mS) (n : Nat) : Option mSt := match L[n]? with
  | some (.inr (.inr (.inr (.inl x)))) => some (L, vd x :: S, σ)
  | _ => none
def sti (L : List mV) (S : List mV) (σ : mS) (n : Nat) : Option mSt := match S with
  | .inl x :: r => (stI L n (vi x)).map fun L' => (L', r, σ)
  | _ => none
def sta (L : List mV) (S : List mV) (σ : mS) (n : Nat) : Option mSt := match S with
  | .inr (.inl t) :: r => (stI L n (.inr (.inl t))).map fun L' => (L', r, σ)
  | .inr (.inr (.inr (.inr ()))) :: r => (stI L n vj).map fun L' => (L', r, σ)
  | _ => none
def std (L : List mV) (S : List mV) (σ : mS) (n : Nat) : Option mSt := match S with
  | .inr (.inr (.inr (.inl x))) :: r => (stD L n (vd x)).map fun L' => (L', r, σ)
  | _ => none
def gtf (L : List mV) (S : List mV) (σ : mS) (a b : Nat) : Option mSt := match S with
  | .inr (.inl (some k)) :: r => match σ.1[k]? with
    | some (0, ci, fs) => match ci == a with
      | true => match fs[b]? with
        | some none => some (L, vi (σ.2 k b) :: r, σ)
        | some (some t) => some (L, (.inr (.inl t)) :: r, σ)
        | none => none
      | false => none
    | _ => none
  | _ => none
def bit? (x : Int) : Bool := decide (x = 0) || decide (x = 1)
/-- kd: 0 an int, 1 a boolean, 2 a reference -/
def ptf (L : List mV) (S : List mV) (σ : mS) (a b kd : Nat) : Option mSt := match S with
  | v :: .inr (.inl (some k)) :: r => match σ.1[k]? with
    | some (0, ci, fs) => match ci == a with
      | true => match fs[b]?, v, kd with
        | some none, .inl x, 0 => some (L, r, (σ.1, mset σ.2 k b x))
        | some none, .inl x, 1 => match bit? x with
          | true => some (L, r, (σ.1, mset σ.2 k b x))
          | false => none
        | some (some _), .inr (.inl t), 2 => some (L, r, (σ.1.set k (0, ci, fs.set b (some t)), σ.2))
        | _, _, _ => none
      | false => none
    | _ => none
  | _ => none
def ar2 (L : List mV) (S : List mV) (σ : mS) (f : Int → Int → Int) : Option mSt := match S with
  | .inl y :: .inl x :: r => some (L, vi (f x y) :: r, σ)
  | _ => none
def arp (L : List mV) (S : List mV) (σ : mS) (f : Int → Int → Int) : Option mSt := match S with
  | .inl y :: .inl x :: r => match decide (0 < y) with
    | true => some (L, vi (f x y) :: r, σ)
    | false => none
  | _ => none
def cmpL (x y : Int) : Int := if x < y then -1 else if x = y then 0 else 1
/-- the straight instructions -/
def sem (i : Instr) (a b kd : Nat) (L S : List mV) (σ : mS) : Option mSt := match i with
  | .iconst n => some (L, vi n :: S, σ)
  | .bipush n => some (L, vi n :: S, σ)
  | .sipush n => some (L, vi n :: S, σ)
  | .lconst n => some (L, vl (n.val : Int) :: S, σ)
  | .dconst n => match n with
    | 0 => some (L, vd FP.dconst0 :: S, σ)
    | _ => none
  | .iload_n n => ldn L S σ n.val
  | .iload n => ldn L S σ n
  | .aload_n n => lda L S σ n.val
  | .aload n => lda L S σ n
  | .dload_n n => ldd L S σ n.val
  | .dload n => ldd L S σ n
  | .istore_n n => sti L S σ n.val
  | .istore n => sti L S σ n
  | .astore_n n => sta L S σ n.val
  | .astore n => sta L S σ n
  | .dstore_n n => std L S σ n.val
  | .dstore n => std L S σ n
  | .iinc n k => match L[n]? with
    | some (.inl x) => (stI L n (vi (wr (x + k)))).map fun L' => (L', S, σ)
    | _ => none
  | .iadd => ar2 L S σ fun x y => wr (x + y)
  | .isub => ar2 L S σ fun x y => wr (x - y)
  | .imul => ar2 L S σ fun x y => wr (x * y)
  | .ineg => match S with
    | .inl x :: r => some (L, vi (wr (-x)) :: r, σ)
    | _ => none
  | .irem => arp L S σ Int.tmod
  | .idiv => arp L S σ Int.tdiv
  | .iand => match S with
    | .inl y :: .inl x :: r => match decide (y = 63) with
      | true => some (L, vi (x % 64) :: r, σ)
      | false => none
    | _ => none
  | .i2l => match S with
    | .inl x :: r => some (L, vl x :: r, σ)
    | _ => none
  | .i2c => match S with
    | .inl x :: r => some (L, vi (x % 65536) :: r, σ)
    | _ => none
  | .i2d => match S with
    | .inl x :: r => some (L, vd (FP.i2d (Int32.ofInt x)) :: r, σ)
    | _ => none
  | .lcmp => match S with
    | .inr (.inr (.inl y)) :: .inr (.inr (.inl x)) :: r => some (L, vi (cmpL x y) :: r, σ)
    | _ => none
  | .dcmp op => match S with
    | .inr (.inr (.inr (.inl y))) :: .inr (.inr (.inr (.inl x))) :: r => some (L, vi (Op.cmpValue (FP.dcmp x y) op).toInt :: r, σ)
    | _ => none
  | .dup => match S with
    | v :: r => match c2 v with
      | false => some (L, v :: v :: r, σ)
      | true => none
    | _ => none
  | .pop => match S with
    | v :: r => match c2 v with
      | false => some (L, r, σ)
      | true => none
    | _ => none
  | .dup2 => match S with
    | v :: w :: r => match c2 v || c2 w with
      | false => some (L, v :: w :: v :: w :: r, σ)
      | true => none
    | _ => none
  | .dup_x1 => match S with
    | v :: w :: r => match c2 v || c2 w with
      | false => some (L, v :: w :: v :: r, σ)
      | true => none
    | _ => none
  | .getfield _ => gtf L S σ a b
  | .putfield _ => ptf L S σ a b kd
  | .getstatic _ => some (L, vr a :: S, σ)
  | .invokestatic _ => match decide (S.length ≤ 20), a with
    | true, 1 => ar2 L S σ fun x y => if x < y then y else x
    | true, 2 => ar2 L S σ fun x y => if y < x then y else x
    | true, 3 => match S with
      | .inl x :: r => some (L, vi (wr (x.natAbs : Int)) :: r, σ)
      | _ => none
    | _, _ => none
  | .invokespecial _ => match decide (S.length ≤ 20), S with
    | true, .inr (.inl (some _)) :: r => some (L, r, σ)
    | _, _ => none
  | _ => none
def runS : List mI → mSt → Option (mSt × mI)
  | [], _ => none
  | i :: r, st => match i.1 with
    | 0 => match sem i.2.1 i.2.2.1 i.2.2.2.1 (i.2.2.2.2.2.headD 0) st.1 st.2.1 st.2.2 with
      | some st' => runS r st'
      | none => none
    | _ => some (st, i)
/-- an array that is read by iaload: its length; else 0 -/
def alI (σ : mS) (k : Nat) : Int := match σ.1[k]? with
  | some (1, n, _) => n
  | some (5, n, _) => n
  | _ => 0
def alK (σ : mS) (kd k : Nat) : Int := match σ.1[k]? with
  | some (q, n, _) => if q = kd then n else 0
  | _ => 0
def isScr (k : Nat) : Bool := k == 3
def cmpI (c : ClassFile.Cond) (x y : Int) : Prop := match c with
  | .eq => x = y
  | .ne => x ≠ y
  | .lt => x < y
  | .ge => y ≤ x
  | .gt => y < x
  | .le => x ≤ y
def msk : List Bool → List mV → List mV
  | b :: bs, v :: vs => (match b with | true => v | false => vj) :: msk bs vs
  | _, _ => []
def swT (lo : Int) (ts : List Nat) (df : Nat) (x : Int) : Nat := if x < lo then df else ts.getD (x - lo).toNat df
def alA (σ : mS) (k : Nat) : Int := match σ.1[k]? with
  | some (0, _, _) => 0
  | some (6, _, _) => 0
  | some (_, n, _) => n
  | none => 0
def psh (v : Option mV) (r : List mV) : List mV := match v with
  | none => r
  | some x => x :: r
def nj : mV → Bool
  | .inr (.inr _) => false
  | _ => true
def rcvOk (σ : mS) (as : List mV) (rc : Nat) : Bool := match rc, as with
  | 0, _ => true
  | ci + 1, .inr (.inl (some k)) :: _ => match σ.1[k]? with
    | some (0, c, _) => c == ci
    | _ => false
  | _, _ => false
def callK (r : mR) (k : Option mV → mS → mR) (x : Nat → mS → mR) : mR := match r with
  | none => none
  | some (.inl v, σ) => k v σ
  | some (.inr e, σ) => x e σ
def mcpy (M : mM) (ks kd n : Nat) : mM := fun a j => if a = kd ∧ j < n then M ks j else M a j
def mzero (M : mM) (k : Nat) : mM := fun a j => if a = k then 0 else M a j
def mclone (M : mM) (ks k : Nat) : mM := fun a j => if a = k then M ks j else M a j
def nn64 (r : UInt64) : Bool := decide (r &&& 0x7fffffffffffffff ≤ 0x7ff0000000000000)
abbrev mJ : Type := Nat → Nat → List mV → List mV → mS → mR
abbrev mC : Type := Nat → List mV → mS → mR
def goCmp (J : mJ) (u a b : Nat) (L r : List mV) (σ : mS) (c : ClassFile.Cond) (x y : Int) : mR := match c with
  | .eq => if x = y then J u a L r σ else J u b L r σ
  | .ne => if x = y then J u b L r σ else J u a L r σ
  | .lt => if x < y then J u a L r σ else J u b L r σ
  | .ge => if x < y then J u b L r σ else J u a L r σ
  | .gt => if y < x then J u a L r σ else J u b L r σ
  | .le => if y < x then J u b L r σ else J u a L r σ
def goRet (S : List mV) (σ : mS) (rt : Nat) : mR := match rt, S with
  | 0, [] => some (.inl none, σ)
  | 1, [.inl x] => some (.inl (some (vi x)), σ)
  | 2, [.inl x] => if bit? x = true then some (.inl (some (vi x)), σ) else none
  | 3, [.inr (.inr (.inr (.inl x)))] => some (.inl (some (vd x)), σ)
  | _, _ => none
def goRd (J : mJ) (u a : Nat) (L S : List mV) (σ : mS) (i : Instr) (scr : Nat) : mR := match i, S with
  | .iaload, .inl x :: .inr (.inl (some k)) :: r => match scr with
    | 0 => if 0 ≤ x ∧ x < alI σ k then J u a L (vi (σ.2 k x.toNat) :: r) σ else none
    | _ => match k with
      | 3 => if 0 ≤ x ∧ x < σ.2 4 0 then J u a L (vi (σ.2 3 x.toNat) :: r) σ else none
      | _ => none
  | .caload, .inl x :: .inr (.inl (some k)) :: r => if 0 ≤ x ∧ x < alK σ 2 k then J u a L (vi (σ.2 k x.toNat) :: r) σ else none
  | .laload, .inl x :: .inr (.inl (some k)) :: r => if 0 ≤ x ∧ x < alK σ 3 k then J u a L (vl (σ.2 k x.toNat) :: r) σ else none
  | .daload, .inl x :: .inr (.inl (some k)) :: r => if 0 ≤ x ∧ x < alK σ 4 k then J u a L (vd (UInt64.ofNat (σ.2 k x.toNat).toNat) :: r) σ else none
  | .arraylength, .inr (.inl (some k)) :: r => match scr with
    | 0 => if 0 < alA σ k then J u a L (vi (alA σ k) :: r) σ else none
    | _ => match k with
      | 3 => J u a L (vi (σ.2 4 0) :: r) σ
      | _ => none
  | .dadd, .inr (.inr (.inr (.inl y))) :: .inr (.inr (.inr (.inl x))) :: r => if nn64 (FP.dadd x y) = true then J u a L (vd (FP.dadd x y) :: r) σ else none
  | .ddiv, .inr (.inr (.inr (.inl y))) :: .inr (.inr (.inr (.inl x))) :: r => if nn64 (FP.ddiv x y) = true then J u a L (vd (FP.ddiv x y) :: r) σ else none
  | _, _ => none
def goWr (J : mJ) (u a : Nat) (L S : List mV) (σ : mS) (i : Instr) : mR := match i, S with
  | .iastore, .inl v :: .inl x :: .inr (.inl (some k)) :: r => if 0 ≤ x ∧ x < alK σ 1 k then J u a L r (σ.1, mset σ.2 k x.toNat v) else none
  | .castore, .inl v :: .inl x :: .inr (.inl (some k)) :: r => if (0 ≤ x ∧ x < alK σ 2 k) ∧ 0 ≤ v ∧ v < 65536 then J u a L r (σ.1, mset σ.2 k x.toNat v) else none
  | .lastore, .inr (.inr (.inl v)) :: .inl x :: .inr (.inl (some k)) :: r => if 0 ≤ x ∧ x < alK σ 3 k then J u a L r (σ.1, mset σ.2 k x.toNat v) else none
  | .dastore, .inr (.inr (.inr (.inl v))) :: .inl x :: .inr (.inl (some k)) :: r => if 0 ≤ x ∧ x < alK σ 4 k then J u a L r (σ.1, mset σ.2 k x.toNat (v.toNat : Int)) else none
  | .invokestatic _, .inl n :: .inl dp :: .inr (.inl (some kd)) :: .inl sp :: .inr (.inl (some ks)) :: r => if (sp = 0 ∧ dp = 0 ∧ r.length ≤ 20) ∧ 0 < n ∧ n ≤ alK σ 1 ks ∧ n ≤ alK σ 1 kd then J u a L r (σ.1, mcpy σ.2 ks kd n.toNat) else none
  | _, _ => none
def goNw (J : mJ) (u a b : Nat) (L S : List mV) (σ : mS) (i : Instr) (cm q : Nat) (fs : List Nat) : mR := match i, S with
  | .new _, S => match decide (u + 1 ≤ cm) with
    | true => J (u + 1) a L (vr σ.1.length :: S) (σ.1 ++ [(0, b, fs.map fun z => match z with | 0 => none | _ => some none)], mzero σ.2 σ.1.length)
    | false => none
  | .newarray _, .inl n :: r => match decide (u + 1 ≤ cm) && (decide (0 ≤ n) && decide (n ≤ 2100)) with
    | true => J (u + 1) a L (vr σ.1.length :: r) (σ.1 ++ [(q, n.toNat, [])], mzero σ.2 σ.1.length)
    | false => none
  | .invokevirtual _, .inr (.inl (some k)) :: r => match decide (u + 1 ≤ cm) && decide (r.length ≤ 20), σ.1[k]? with
    | true, some (5, n, _) => J (u + 1) a L (vr σ.1.length :: r) (σ.1 ++ [(1, n, [])], mclone σ.2 k σ.1.length)
    | _, _ => none
  | _, _ => none
/-- behind a block's straight part -/
def goT (J : mJ) (C : mC) (u : Nat) (L S : List mV) (σ : mS) (i : mI) : mR := match i.1 with
  | 1 => J u i.2.2.1 L S σ
  | 2 => J u i.2.2.1 L S σ
  | 3 => match i.2.1, S with
    | .ifCond c _, .inl x :: r => goCmp J u i.2.2.1 i.2.2.2.1 L r σ c x 0
    | .if_icmp c _, .inl y :: .inl x :: r => goCmp J u i.2.2.1 i.2.2.2.1 L r σ c x y
    | _, _ => none
  | 4 => match S with
    | .inl x :: r => J u (swT i.2.2.2.1 i.2.2.2.2.2 i.2.2.1 x) L r σ
    | _ => none
  | 5 => goRet S σ i.2.2.1
  | 6 => match i.2.2.2.2.2 with
    | n :: cc :: cm :: rc :: hs => match ((decide (n ≤ S.length) && decide (c2sum (S.drop n) ≤ 8)) && decide (u + cc ≤ cm)) && ((S.take n).all nj && rcvOk σ (S.take n).reverse rc) with
      | true => callK (C i.2.2.1 (S.take n).reverse σ) (fun v σ1 => J (u + cc) i.2.2.2.1 L (psh v (S.drop n)) σ1) (fun e σ1 => match hs.getD e 1 with
        | 0 => some (.inr e, σ1)
        | 1 => none
        | t + 2 => J (u + cc) t L [vj] σ1)
      | false => none
    | _ => none
  | 7 => match i.2.2.2.2.2 with
    | cm :: _ => match decide (u + 1 ≤ cm) && decide (S.length ≤ 20) with
      | true => some (.inr i.2.2.1, σ)
      | false => none
    | _ => none
  | 8 => goRd J u i.2.2.1 L S σ i.2.1 i.2.2.2.1
  | 9 => goWr J u i.2.2.1 L S σ i.2.1
  | 10 => match i.2.2.2.2.2 with
    | cm :: q :: fs => goNw J u i.2.2.1 i.2.2.2.1 L S σ i.2.1 cm q fs
    | _ => none
  | _ => none
/-- a method: its name, bytes, locals, answer's type, cost, arguments, handlers; its blocks -/
abbrev mMt : Type := (MethodName × ByteArray × Nat × Option FieldType × Nat × Nat × List (Nat × Nat × Nat × Nat)) × List mB
abbrev mP : Type := Nat → mMt
def pMask (P : mP) (m b : Nat) : List Bool := match (P m).2[b]? with
  | some q => q.2.1
  | none => []
def pPad (P : mP) (m : Nat) (as : List mV) : List mV := as ++ List.replicate ((P m).1.2.2.1 - as.length) vj
def goB (J : mJ) (C : mC) (u : Nat) (code : List mI) (st : mSt) : mR := match runS code st with
  | none => none
  | some (st', i) => goT J C u st'.1 st'.2.1 st'.2.2 i
def goP (P : mP) (m : Nat) (J : mJ) (C : mC) (u b : Nat) (L S : List mV) (σ : mS) : mR := match (P m).2[b]? with
  | none => none
  | some q => goB (fun u' b' L1 S1 σ1 => J u' b' (msk (pMask P m b') L1) S1 σ1) C u q.2.2 (L, S, σ)
def dcas (d : Nat) (f : Nat → mC) : mC := match d with
  | 0 => fun _ _ _ => none
  | d' + 1 => f d'
def exec (P : mP) : Nat → Nat → Nat → mJ
  | 0, _, _ => fun _ _ _ _ _ => none
  | n + 1, d, m => fun u b L S σ => goP P m (exec P n d m) (dcas d fun d' a as σ1 => exec P n d' a 0 0 (pPad P a as) [] σ1) u b L S σ
noncomputable def ev (P : mP) (d m : Nat) : mJ := fun u b L S σ =>
  @dite mR (∃ n, (exec P n d m u b L S σ).isSome = true) (Classical.propDecidable _) (fun h => exec P (Classical.choose h) d m u b L S σ) (fun _ => none)
noncomputable def run (P : mP) (d m : Nat) (as : List mV) (σ : mS) : mR := ev P d m 0 0 (pPad P m as) [] σ
noncomputable def evC (P : mP) (d : Nat) : mC := dcas d fun d' a as σ => run P d' a as σ
/-! its laws -/
def leR (x y : mR) : Prop := ∀ r, x = some r → y = some r
theorem leR.rf (x : mR) : leR x x := fun _ h => h
theorem leR.none (x : mR) : leR none x := fun _ h => by cases h
theorem leR.ite {c : Prop} [Decidable c] {a a' b b' : mR} (h1 : leR a a') (h2 : leR b b') : leR (if c then a else b) (if c then a' else b') := by
  by_cases h : c
  · rw [if_pos h, if_pos h]; exact h1
  · rw [if_neg h, if_neg h]; exact h2
def leJ (J J' : mJ) : Prop := ∀ u b L S σ, leR (J u b L S σ) (J' u b L S σ)
def leC (C C' : mC) : Prop := ∀ a as σ, leR (C a as σ) (C' a as σ)
theorem callK_mono {x x' : mR} {k k' : Option mV → mS → mR} {z z' : Nat → mS → mR} (h : leR x x') (hk : ∀ v σ, leR (k v σ) (k' v σ)) (hz : ∀ e σ, leR (z e σ) (z' e σ)) : leR (callK x k z) (callK x' k' z') := by
  intro r hr
  cases x with
  | none => cases hr
  | some q =>
    have e := h q rfl
    rw [e]
    obtain ⟨o, σ⟩ := q
    cases o with
    | inl v => exact hk v σ r hr
    | inr v => exact hz v σ r hr
theorem goT_mono {J J' : mJ} {C C' : mC} (hJ : leJ J J') (hC : leC C C') (u : Nat) (L S : List mV) (σ : mS) (i : mI) : leR (goT J C u L S σ i) (goT J' C' u L S σ i) := by
  unfold goT
  split
  · exact hJ _ _ _ _ _
  · exact hJ _ _ _ _ _
  · split
    · unfold goCmp; split <;> exact leR.ite (hJ _ _ _ _ _) (hJ _ _ _ _ _)
    · unfold goCmp; split <;> exact leR.ite (hJ _ _ _ _ _) (hJ _ _ _ _ _)
    · exact leR.none _
  · split
    · exact hJ _ _ _ _ _
    · exact leR.none _
  · exact leR.rf _
  · split
    · split
      · refine callK_mono (hC _ _ _) (fun v σ => hJ _ _ _ _ _) (fun e σ => ?_)
        split
        · exact leR.rf _
        · exact leR.none _
        · exact hJ _ _ _ _ _
      · exact leR.none _
    · exact leR.none _
  · exact leR.rf _
  · unfold goRd
    split
    all_goals first
      | exact leR.none _
      | exact leR.ite (hJ _ _ _ _ _) (leR.none _)
      | (split <;> first
          | exact leR.ite (hJ _ _ _ _ _) (leR.none _)
          | exact hJ _ _ _ _ _
          | exact leR.none _
          | (split <;> first
              | exact leR.ite (hJ _ _ _ _ _) (leR.none _)
              | exact hJ _ _ _ _ _
              | exact leR.none _))
  · unfold goWr
    split
    all_goals first
      | exact leR.none _
      | exact leR.ite (hJ _ _ _ _ _) (leR.none _)
  · split
    · unfold goNw
      split
      all_goals first
        | exact leR.none _
        | (split <;> first
            | exact hJ _ _ _ _ _
            | exact leR.none _)
    · exact leR.none _
  · exact leR.none _
