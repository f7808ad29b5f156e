/-! THE SMALL MACHINE: one instruction, and many -/
def lG : List (Option Vl) → Nat → Option Vl
  | [], _ => none
  | a :: _, 0 => a
  | _ :: l, k + 1 => lG l k
def lS : List (Option Vl) → Nat → Option Vl → List (Option Vl)
  | [], _, _ => []
  | _ :: l, 0, v => v :: l
  | a :: l, k + 1, v => a :: lS l k v
/-- the same, handed on -/
def lSk : List (Option Vl) → Nat → Option Vl → (List (Option Vl) → Prop) → Prop
  | [], _, _, f => f []
  | _ :: l, 0, v, f => f (v :: l)
  | a :: l, k + 1, v, f => lSk l k v (fun l' => f (a :: l'))
theorem lSk_eq (l : List (Option Vl)) : ∀ (k : Nat) (v : Option Vl) (f : List (Option Vl) → Prop), lSk l k v f = f (lS l k v) := by
  induction l with
  | nil => intro k v f; rfl
  | cons a l ih => intro k v f; cases k with
    | zero => rfl
    | succ k => exact ih k v _
/-- a long ahead of place k goes -/
def lKk (l : List (Option Vl)) (k : Nat) (f : List (Option Vl) → Prop) : Prop := match k with
  | 0 => f l
  | k + 1 => match lG l k with
    | some (.inr (.inl _)) => lSk l k none f
    | _ => f l
def lK (l : List (Option Vl)) (k : Nat) : List (Option Vl) := match k with
  | 0 => l
  | k + 1 => match lG l k with
    | some (.inr (.inl _)) => lS l k none
    | _ => l
theorem lKk_eq (l : List (Option Vl)) (k : Nat) (f : List (Option Vl) → Prop) : lKk l k f = f (lK l k) := by
  cases k with
  | zero => rfl
  | succ k =>
    show (match lG l k with | some (.inr (.inl _)) => lSk l k none f | _ => f l) = f (match lG l k with | some (.inr (.inl _)) => lS l k none | _ => l)
    split
    · rw [lSk_eq]
    · rfl
def l1 (l : List (Option Vl)) (k : Nat) (v : Vl) : List (Option Vl) := lS (lK l k) k (some v)
def l2 (l : List (Option Vl)) (k : Nat) (v : Vl) : List (Option Vl) := lS (lS (lK l k) k (some v)) (k + 1) none
def l1k (l : List (Option Vl)) (k : Nat) (v : Vl) (f : List (Option Vl) → Prop) : Prop := lKk l k fun l => lSk l k (some v) f
def l2k (l : List (Option Vl)) (k : Nat) (v : Vl) (f : List (Option Vl) → Prop) : Prop := lKk l k fun l => lSk l k (some v) fun l => lSk l (k + 1) none f
theorem l1k_eq (l : List (Option Vl)) (k : Nat) (v : Vl) (f : List (Option Vl) → Prop) : l1k l k v f = f (l1 l k v) := by
  rw [l1k, lKk_eq, lSk_eq]; rfl
theorem l2k_eq (l : List (Option Vl)) (k : Nat) (v : Vl) (f : List (Option Vl) → Prop) : l2k l k v f = f (l2 l k v) := by
  rw [l2k, lKk_eq, lSk_eq, lSk_eq]; rfl
def gI (v : Option Vl) (f : Int32 → Prop) : Prop := match v with
  | some (.inl x) => f x
  | _ => False
def gJ (v : Option Vl) (f : Int64 → Prop) : Prop := match v with
  | some (.inr (.inl x)) => f x
  | _ => False
def gR (v : Option Vl) (f : Rf → Prop) : Prop := match v with
  | some (.inr (.inr x)) => f x
  | _ => False
def pI (st : List Vl) (f : Int32 → List Vl → Prop) : Prop := match st with
  | .inl x :: r => f x r
  | _ => False
def pJ (st : List Vl) (f : Int64 → List Vl → Prop) : Prop := match st with
  | .inr (.inl x) :: r => f x r
  | _ => False
def pR (st : List Vl) (f : Rf → List Vl → Prop) : Prop := match st with
  | .inr (.inr x) :: r => f x r
  | _ => False
/-- a reference that isn't null -/
def pO (st : List Vl) (f : Nat → Nat → List Vl → Prop) : Prop := match st with
  | .inr (.inr (some (k, i))) :: r => f k i r
  | _ => False
/-- a value of one word -/
def p1 (st : List Vl) (f : Vl → List Vl → Prop) : Prop := match st with
  | .inl x :: r => f (.inl x) r
  | .inr (.inr x) :: r => f (.inr (.inr x)) r
  | _ => False
def popN : Nat → List Vl → List Vl → (List Vl → List Vl → Prop) → Prop
  | 0, acc, st, f => f acc st
  | n + 1, acc, v :: st, f => popN n (v :: acc) st f
  | _ + 1, _, [], _ => False
def cS : List Vl → Nat
  | [] => 0
  | .inr (.inl _) :: r => 2 + cS r
  | _ :: r => 1 + cS r
/-- an object of class ci -/
def oK (q : Nat ⊕ (Nat × Nat)) (ci : Nat) (P : Prop) : Prop := match q with
  | .inl c => cond (Nat.beq c ci) P False
  | .inr _ => False
/-- a row: its tag and length -/
def aK (q : Nat ⊕ (Nat × Nat)) (f : Nat → Nat → Prop) : Prop := match q with
  | .inl _ => False
  | .inr (t, n) => f t n
def rR (md : Bool) (M : Mem) (k i s : Nat) : Rf := match sr md k i s with
  | some r => r
  | none => mR M k i s
def nN (r : Option Rf) (P : Prop) : Prop := match r with
  | some _ => False
  | none => P
def swC (x : Int32) (l : List (Int32 × Nat)) (f : Nat → Prop) (d : Prop) : Prop := match l with
  | [] => d
  | (k, t) :: l => (x = k → f t) ∧ (¬ x = k → swC x l f d)
def mB (i : Nat) : ByteArray := (mt i).2.1
def mL (i : Nat) : Nat := (mt i).2.2.1
def mT (i : Nat) : Option FieldType := (mt i).2.2.2.1
def mN (i : Nat) : Nat := (mt i).2.2.2.2.1
def mFr (i : Nat) : Nat := (mt i).2.2.2.2.2.1
def mLo (i : Nat) : Nat := (mt i).2.2.2.2.2.2.1
def mCe (i : Nat) : Nat := (mt i).2.2.2.2.2.2.2.1
def mSl (i : Nat) : Nat := (mt i).2.2.2.2.2.2.2.2.1
def mSt (i : Nat) : Bool := (mt i).2.2.2.2.2.2.2.2.2.1
def mOw (i : Nat) : Nat := (mt i).2.2.2.2.2.2.2.2.2.2
def mZ (i : Nat) : Bool := match mT i with
  | some .boolean => true
  | _ => false
abbrev Co : Type := Nat → List (Option Vl) → List Vl → Mem → Nat → Nat → Prop
abbrev Ka : Type := Option Vl → Mem → Prop
abbrev Ca : Type := Nat → List Vl → Mem → Ka → Prop
/-- the receiver is what the instruction asks for -/
def rcv (L b t : Nat) (as : List Vl) (P : Prop) : Prop := match b with
  | 0 => pO as fun k _ _ => oK (kd L k) t P
  | 1 => pO as fun k _ _ => oK (kd L k) t P
  | 4 => pO as fun _ _ _ => P
  | 5 => pO as fun _ _ _ => P
  | 8 => pO as fun k j _ => cond (Nat.beq k kSTR && Nat.beq j 0) P False
  | _ => P
/-- a call -/
def inv (md : Bool) (L i : Nat) (Cl : Ca) (nx : Co) (nn a b d t : Nat) (ls : List (Option Vl)) (st : List Vl) (M : Mem) (c n : Nat) : Prop := match b with
  | 6 => pO st fun _ _ r => cond (Nat.ble (cS r) 2) (nx nn ls r M c n) False
  | 7 => pI st fun m r => pI r fun dp r => pO r fun k2 i2 r => pI r fun sp r => pO r fun k1 i1 r =>
      aK (kd L k1) fun t1 n1 => aK (kd L k2) fun t2 n2 => cond (Nat.beq t1 3 && (Nat.beq t2 3 && (Nat.ble (k1 + 1) kK && (Nat.ble (k2 + 1) kK && Nat.ble (cS r) 8))))
        ((¬ sp < 0 ∧ ¬ dp < 0 ∧ ¬ m < 0 ∧ sp.toNatClampNeg + m.toNatClampNeg ≤ n1 ∧ dp.toNatClampNeg + m.toNatClampNeg ≤ n2) ∧ nx nn ls r (sCpJ M k1 i1 k2 i2 sp.toNatClampNeg dp.toNatClampNeg m.toNatClampNeg) c n) False
  | 9 => pI st fun y r => pI r fun x r => cond (Nat.ble (cS r) 8) (nx nn ls (vI (if x < y then y else x) :: r) M c n) False
  | 10 => pI st fun y r => pI r fun x r => cond (Nat.ble (cS r) 8) (nx nn ls (vI (if y < x then y else x) :: r) M c n) False
  | 11 => pI st fun x r => cond (Nat.ble (cS r) 8) (nx nn ls (vI (if 0 ≤ x then x else 0 - x) :: r) M c n) False
  | 12 => pJ st fun y r => pJ r fun x r => cond (Nat.ble (cS r) 8) (nx nn ls (vJ (if y < x then x else y) :: r) M c n) False
  | 13 => pJ st fun y r => pJ r fun x r => cond (Nat.ble (cS r) 8) (nx nn ls (vJ (if y < x then y else x) :: r) M c n) False
  | 14 => pJ st fun x r => cond (Nat.ble (cS r) 8) (nx nn ls (vJ (if 0 < x then x else -x) :: r) M c n) False
  | _ => popN d [] st fun as r => rcv L b t as <| cond (Nat.ble (cS r) 8) (∃ K0, Cl a as M K0 ∧ (cond md (cond (Nat.beq (mCe a) 0 && Nat.beq (mSl a) 0) True False) (c + mCe a ≤ mCe i ∧ n + mSl a ≤ mSl i)) ∧
      ∀ v M', K0 v M' → nx nn ls (v.toList ++ r) M' (cond md c (c + mCe a)) (cond md n (n + mSl a))) False
/-- one instruction -/
def ex1 (md : Bool) (L i : Nat) (Cl : Ca) (K : Ka) (nx : Co) (ins : Instr) (nn a b d t : Nat) (vi : Int32) (vj : Int64) (sl : List (Int32 × Nat)) (ls : List (Option Vl)) (st : List Vl) (M : Mem) (c n : Nat) : Prop :=
  match ins with
  | .iconst _ | .bipush _ | .sipush _ | .ldc_w _ => nx nn ls (vI vi :: st) M c n
  | .ldc _ => cond (Nat.beq d 1) (nx nn ls (vR (some (kSTR, 0)) :: st) M c n) (nx nn ls (vI vi :: st) M c n)
  | .lconst _ | .ldc2_w _ => nx nn ls (vJ vj :: st) M c n
  | .aconst_null => nx nn ls (vR none :: st) M c n
  | .iload _ | .iload_n _ => gI (lG ls a) fun x => nx nn ls (vI x :: st) M c n
  | .lload _ | .lload_n _ => gJ (lG ls a) fun x => nx nn ls (vJ x :: st) M c n
  | .aload _ | .aload_n _ => gR (lG ls a) fun x => nx nn ls (vR x :: st) M c n
  | .istore _ | .istore_n _ => pI st fun x r => l1k ls a (vI x) fun ls => nx nn ls r M c n
  | .lstore _ | .lstore_n _ => pJ st fun x r => l2k ls a (vJ x) fun ls => nx nn ls r M c n
  | .astore _ | .astore_n _ => pR st fun x r => l1k ls a (vR x) fun ls => nx nn ls r M c n
  | .iinc _ _ => gI (lG ls a) fun x => l1k ls a (vI (x + vi)) fun ls => nx nn ls st M c n
  | .iadd => pI st fun y r => pI r fun x r => nx nn ls (vI (x + y) :: r) M c n
  | .isub => pI st fun y r => pI r fun x r => nx nn ls (vI (x - y) :: r) M c n
  | .imul => pI st fun y r => pI r fun x r => nx nn ls (vI (x * y) :: r) M c n
  | .iand => pI st fun y r => pI r fun x r => nx nn ls (vI (x &&& y) :: r) M c n
  | .ishl => pI st fun y r => pI r fun x r => nx nn ls (vI (x <<< (y &&& 31)) :: r) M c n
  | .ishr => pI st fun y r => pI r fun x r => nx nn ls (vI (x >>> (y &&& 31)) :: r) M c n
  | .iushr => pI st fun y r => pI r fun x r => nx nn ls (vI ((x.toUInt32 >>> (y.toUInt32 &&& Int32.toUInt32 31)).toInt32) :: r) M c n
  | .idiv => pI st fun y r => pI r fun x r => ¬ y = 0 ∧ nx nn ls (vI (x / y) :: r) M c n
  | .irem => pI st fun y r => pI r fun x r => ¬ y = 0 ∧ nx nn ls (vI (x - x / y * y) :: r) M c n
  | .ineg => pI st fun x r => nx nn ls (vI (-x) :: r) M c n
  | .ladd => pJ st fun y r => pJ r fun x r => nx nn ls (vJ (x + y) :: r) M c n
  | .lsub => pJ st fun y r => pJ r fun x r => nx nn ls (vJ (x - y) :: r) M c n
  | .lmul => pJ st fun y r => pJ r fun x r => nx nn ls (vJ (x * y) :: r) M c n
  | .ldiv => pJ st fun y r => pJ r fun x r => ¬ y = 0 ∧ nx nn ls (vJ (x / y) :: r) M c n
  | .lneg => pJ st fun x r => nx nn ls (vJ (-x) :: r) M c n
  | .lcmp => pJ st fun y r => pJ r fun x r => nx nn ls (vI (lg_cmp x y) :: r) M c n
  | .i2l => pI st fun x r => nx nn ls (vJ x.toInt64 :: r) M c n
  | .l2i => pJ st fun x r => nx nn ls (vI x.toInt32 :: r) M c n
  | .i2b => pI st fun x r => nx nn ls (vI x.toInt8.toInt32 :: r) M c n
  | .dup => p1 st fun v r => nx nn ls (v :: v :: r) M c n
  | .dup2 => p1 st fun v r => p1 r fun w r => nx nn ls (v :: w :: v :: w :: r) M c n
  | .ifCond q _ => pI st fun x r => match q with
    | .eq => (x = 0 → nx a ls r M c n) ∧ (¬ x = 0 → nx nn ls r M c n)
    | .ne => (¬ x = 0 → nx a ls r M c n) ∧ (x = 0 → nx nn ls r M c n)
    | .lt => (x < 0 → nx a ls r M c n) ∧ (¬ x < 0 → nx nn ls r M c n)
    | .ge => (0 ≤ x → nx a ls r M c n) ∧ (¬ 0 ≤ x → nx nn ls r M c n)
    | .gt => (0 < x → nx a ls r M c n) ∧ (¬ 0 < x → nx nn ls r M c n)
    | .le => (x ≤ 0 → nx a ls r M c n) ∧ (¬ x ≤ 0 → nx nn ls r M c n)
  | .if_icmp q _ => pI st fun y r => pI r fun x r => match q with
    | .eq => (x = y → nx a ls r M c n) ∧ (¬ x = y → nx nn ls r M c n)
    | .ne => (¬ x = y → nx a ls r M c n) ∧ (x = y → nx nn ls r M c n)
    | .lt => (x < y → nx a ls r M c n) ∧ (¬ x < y → nx nn ls r M c n)
    | .ge => (y ≤ x → nx a ls r M c n) ∧ (¬ y ≤ x → nx nn ls r M c n)
    | .gt => (y < x → nx a ls r M c n) ∧ (¬ y < x → nx nn ls r M c n)
    | .le => (x ≤ y → nx a ls r M c n) ∧ (¬ x ≤ y → nx nn ls r M c n)
  | .goto _ => nx a ls st M c n
  | .ifnull _ => pR st fun x r => match x with
    | none => nx a ls r M c n
    | some _ => nx nn ls r M c n
  | .ifnonnull _ => pR st fun x r => match x with
    | none => nx nn ls r M c n
    | some _ => nx a ls r M c n
  | .tableswitch _ _ _ _ => pI st fun x r => swC x sl (fun t => nx t ls r M c n) (nx a ls r M c n)
  | .getfield _ => pO st fun k j r => oK (kd L k) a (match t with
    | 3 => nx nn ls (vJ (mJ M k j b) :: r) M c n
    | 4 => nx nn ls (vR (rR md M k j b) :: r) M c n
    | _ => nx nn ls (vI (mI M k j b) :: r) M c n)
  | .putfield _ => match t with
    | 3 => pJ st fun x r => pO r fun k j r => oK (kd L k) a (nx nn ls r (sJ M k j b x) c n)
    | 4 => pR st fun x r => pO r fun k j r => oK (kd L k) a (nN (sr md k j b) (nx nn ls r (sR M k j b x) c n))
    | 2 => pI st fun x r => pO r fun k j r => oK (kd L k) a ((x = 0 ∨ x = 1) ∧ nx nn ls r (sI M k j b x) c n)
    | _ => pI st fun x r => pO r fun k j r => oK (kd L k) a (nx nn ls r (sI M k j b x) c n)
  | .iaload => pI st fun x r => pO r fun k j r => aK (kd L k) fun tg len => cond (Nat.beq tg 0) (vp_in x len ∧ nx nn ls (vI (mI M k j x.toNatClampNeg) :: r) M c n) False
  | .baload => pI st fun x r => pO r fun k j r => aK (kd L k) fun tg len => cond (Nat.beq tg 1 || Nat.beq tg 2) (vp_in x len ∧ nx nn ls (vI (mI M k j x.toNatClampNeg) :: r) M c n) False
  | .laload => pI st fun x r => pO r fun k j r => aK (kd L k) fun tg len => cond (Nat.beq tg 3) (vp_in x len ∧ nx nn ls (vJ (mJ M k j x.toNatClampNeg) :: r) M c n) False
  | .aaload => pI st fun x r => pO r fun k j r => aK (kd L k) fun tg len => cond (Nat.ble 10 tg && Nat.ble tg 22) (vp_in x len ∧ nx nn ls (vR (rR md M k j x.toNatClampNeg) :: r) M c n) False
  | .iastore => pI st fun y r => pI r fun x r => pO r fun k j r => aK (kd L k) fun tg len => cond (Nat.beq tg 0 && Nat.ble (k + 1) kK) (vp_in x len ∧ nx nn ls r (sI M k j x.toNatClampNeg y) c n) False
  | .bastore => pI st fun y r => pI r fun x r => pO r fun k j r => aK (kd L k) fun tg len => match tg with
    | 1 => vp_in x len ∧ nx nn ls r (sI M k j x.toNatClampNeg y.toInt8.toInt32) c n
    | 2 => vp_in x len ∧ (y = 0 ∨ y = 1) ∧ nx nn ls r (sI M k j x.toNatClampNeg y) c n
    | _ => False
  | .lastore => pJ st fun y r => pI r fun x r => pO r fun k j r => aK (kd L k) fun tg len => cond (Nat.beq tg 3) (vp_in x len ∧ nx nn ls r (sJ M k j x.toNatClampNeg y) c n) False
  | .aastore => pO st fun k1 j1 r => pI r fun x r => pO r fun k j r => aK (kd L k) fun tg len => oK (kd L k1) (tg - 10) (cond (Nat.ble 10 tg && Nat.ble tg 22) (vp_in x len ∧ nN (sr md k j x.toNatClampNeg) (nx nn ls r (sR M k j x.toNatClampNeg (some (k1, j1))) c n)) False)
  | .arraylength => pO st fun k _ r => aK (kd L k) fun tg len => cond (Nat.ble tg 22) (nx nn ls (vI (Int32.ofNat len) :: r) M c n) False
  | .newarray _ => pI st fun x r => aK (kd L a) fun _ len => cond md False (x = Int32.ofNat len ∧ (c + 1 ≤ mCe i ∧ n + len ≤ mSl i) ∧ nx nn ls (vR (some (a, mC M a)) :: r) (sNew M a) (c + 1) (n + len))
  | .anewarray _ => pI st fun x r => aK (kd L a) fun _ len => cond md False (x = Int32.ofNat len ∧ (c + 1 ≤ mCe i ∧ n + len ≤ mSl i) ∧ nx nn ls (vR (some (a, mC M a)) :: r) (sNew M a) (c + 1) (n + len))
  | .new _ => oK (kd L a) a (cond md False ((c + 1 ≤ mCe i ∧ n + clN a ≤ mSl i) ∧ nx nn ls (vR (some (a, mC M a)) :: st) (sNew M a) (c + 1) (n + clN a)))
  | .getstatic _ => nx nn ls (vR (some (kSH, 0)) :: st) M c n
  | .invokevirtual _ | .invokespecial _ | .invokestatic _ => inv md L i Cl nx nn a b d t ls st M c n
  | .ireturn => match st with
    | [.inl x] => cond (mZ i) ((x = 0 ∨ x = 1) ∧ K (some (vI x)) M) (K (some (vI x)) M)
    | _ => False
  | .lreturn => match st with
    | [.inr (.inl x)] => K (some (vJ x)) M
    | _ => False
  | .areturn => match st with
    | [.inr (.inr x)] => K (some (vR x)) M
    | _ => False
  | .return_ => match st with
    | [] => K none M
    | _ => False
  | _ => False
def exE (md : Bool) (L i : Nat) (Cl : Ca) (K : Ka) (nx : Co) (q : Option En) (ls : List (Option Vl)) (st : List Vl) (M : Mem) (c n : Nat) : Prop := match q with
  | some (ins, nn, a, b, d, t, vi, vj, sl) => ex1 md L i Cl K nx ins nn a b d t vi vj sl ls st M c n
  | none => False
def zd (i pc : Nat) : Option En := cond (Nat.ble (pc + 1) (zcN i)) (zc i pc) none
/-- many instructions, up to a place of the cut -/
def wp (md : Bool) (L i : Nat) (Cl : Ca) (C : Co) (cut : List Nat) (K : Ka) : Nat → Co
  | 0 => C
  | f + 1 => fun pc ls st M c n => exE md L i Cl K (fun pc ls st M c n => cond (cut.elem pc) (C pc ls st M c n) (wp md L i Cl C cut K f pc ls st M c n)) (zd i pc) ls st M c n
