/-! THE SMALL MACHINE IS THE MACHINE -/
def callOK (i a d : Nat) : Bool := JL.elem a && (decide (d = mN a) && (decide (mFr a + 1 ≤ mFr i) && decide (8 + (mL a + 11) + mLo a ≤ mLo i)))
def swOK (pc : Nat) (lo hi : Int) (offs : Array Int) (sl : List (Int32 × Nat)) : Bool :=
  decide (hi = lo + sl.length - 1) && (decide (-2147483648 ≤ lo) && (decide (hi < 2147483648) && (List.range sl.length).all (fun j => match sl[j]?, offs[j]? with
    | some (k, t), some off => decide (k.toInt = lo + j) && decide ((pc : Int) + off = (t : Int))
    | _, _ => false)))
def mathN (b : Nat) : MethodName := match b with
  | 9 => Lib.Math.max.name
  | 10 => Lib.Math.min.name
  | 11 => Lib.Math.abs.name
  | 12 => Lib.MathLoose.max_long.x
  | 13 => Lib.MathLoose.min_long.x
  | _ => Lib.MathLoose.abs_long.x
def okI (i pc : Nat) (ins : Instr) (nn a b d t : Nat) (vi : Int32) (vj : Int64) (sl : List (Int32 × Nat)) : Bool := match ins with
  | .iconst v => decide (nn = pc + 1) && decide (Int32.ofInt v = vi)
  | .bipush v => decide (nn = pc + 2) && decide ((Int8.ofInt v).toInt32 = vi)
  | .sipush v => decide (nn = pc + 3) && decide ((Int16.ofInt v).toInt32 = vi)
  | .ldc x => decide (nn = pc + 2) && (if d = 1 then decide (ownR (mOw i) = "WingHouse$Tokens") && decide (x = 11) else CI.elem (mOw i, x, vi))
  | .ldc_w x => decide (nn = pc + 3) && CI.elem (mOw i, x, vi)
  | .ldc2_w x => decide (nn = pc + 3) && CJ.elem (mOw i, x, vj)
  | .lconst k => decide (nn = pc + 1) && decide (Int64.ofNat (k : Nat) = vj)
  | .iload k => decide (nn = pc + 2) && decide (k = a)
  | .lload k => decide (nn = pc + 2) && decide (k = a)
  | .aload k => decide (nn = pc + 2) && decide (k = a)
  | .iload_n k => decide (nn = pc + 1) && decide ((k : Nat) = a)
  | .lload_n k => decide (nn = pc + 1) && decide ((k : Nat) = a)
  | .aload_n k => decide (nn = pc + 1) && decide ((k : Nat) = a)
  | .istore k => decide (nn = pc + 2) && (decide (k = a) && decide (a < mL i))
  | .lstore k => decide (nn = pc + 2) && (decide (k = a) && decide (a + 1 < mL i))
  | .astore k => decide (nn = pc + 2) && (decide (k = a) && decide (a < mL i))
  | .istore_n k => decide (nn = pc + 1) && (decide ((k : Nat) = a) && decide (a < mL i))
  | .lstore_n k => decide (nn = pc + 1) && (decide ((k : Nat) = a) && decide (a + 1 < mL i))
  | .astore_n k => decide (nn = pc + 1) && (decide ((k : Nat) = a) && decide (a < mL i))
  | .iinc k v => decide (nn = pc + 3) && (decide (k = a) && (decide (Int32.ofInt v = vi) && decide (a < mL i)))
  | .aconst_null | .iadd | .isub | .imul | .iand | .ishl | .ishr | .iushr | .idiv | .irem | .ineg | .ladd | .lsub | .lmul | .ldiv | .lneg | .lcmp | .i2l | .l2i | .i2b | .dup | .dup2 | .iaload | .baload | .laload | .aaload | .iastore | .bastore | .lastore | .aastore | .arraylength => decide (nn = pc + 1)
  | .ifCond _ off => decide (nn = pc + 3) && decide ((pc : Int) + off = (a : Int))
  | .if_icmp _ off => decide (nn = pc + 3) && decide ((pc : Int) + off = (a : Int))
  | .goto off => decide (nn = pc + 3) && decide ((pc : Int) + off = (a : Int))
  | .ifnull off => decide (nn = pc + 3) && decide ((pc : Int) + off = (a : Int))
  | .ifnonnull off => decide (nn = pc + 3) && decide ((pc : Int) + off = (a : Int))
  | .tableswitch dflt lo hi offs => decide ((pc : Int) + dflt = (a : Int)) && swOK pc lo hi offs sl
  | .getfield x => decide (nn = pc + 3) && (FL.elem (mOw i, x, a, b, d) && decide (t = tagF (clT a b)))
  | .putfield x => decide (nn = pc + 3) && (FL.elem (mOw i, x, a, b, d) && ((!(clF a b).2.2.2 || (decide ((clF a b).1 = ownR (mOw i)) && (decide ((mt i).1.name = "<init>") && decide (d = 0)))) && (match t with
      | 0 => decide (clT a b = .int)
      | 2 => decide (clT a b = .boolean)
      | 3 => decide (clT a b = .long)
      | 4 => decide (tagF (clT a b) = 4 ∧ clT a b ≠ .float ∧ clT a b ≠ .double ∧ clT a b ≠ .char ∧ clT a b ≠ .short)
      | _ => false)))
  | .newarray ty => decide (nn = pc + 2) && (decide (a < kK) && (match kd0 a with
      | .inr (t', _) => decide (t' ≤ 3) && decide (newarray.typeOf ty = tagT t')
      | _ => false))
  | .anewarray x => decide (nn = pc + 3) && (decide (a < kK) && (match kd0 a with
      | .inr (t', _) => decide (10 ≤ t') && NL.elem (mOw i, x, t' - 10)
      | _ => false))
  | .new x => decide (nn = pc + 3) && (decide (a < kK) && (match kd0 a with
      | .inl ci => NL.elem (mOw i, x, ci) && (NS.elem ci && NI.any (fun o => decide (ownR o = clR ci)))
      | _ => false))
  | .getstatic x => decide (nn = pc + 3) && (decide (ownR (mOw i) = "WingHouse$Solver") && decide (x = 130))
  | .invokevirtual x => decide (nn = pc + 3) && (ML.elem (mOw i, x, a, b) && (callOK i a d && (SL.elem a && (!mSt a && (match b with
      | 0 => decide ((mt a).1.cls = clR t)
      | 1 => decide ((mt a).1.cls = clR t)
      | 8 => decide ((mt a).1.cls = "java/lang/String")
      | _ => false)))))
  | .invokespecial x => decide (nn = pc + 3) && (match b with
      | 4 => ML.elem (mOw i, x, a, b) && (callOK i a d && (!mSt a && (decide (mT a = none) && decide ((mt a).1.name = "<init>"))))
      | 5 => ML.elem (mOw i, x, a, b) && (callOK i a d && (!mSt a && (decide (mT a = none) && decide ((mt a).1.name = "<init>"))))
      | 6 => M6.elem (mOw i, x) && (decide (1 ≤ mFr i) && decide (14 ≤ mLo i))
      | _ => false)
  | .invokestatic x => decide (nn = pc + 3) && (match b with
      | 2 => ML.elem (mOw i, x, a, b) && (callOK i a d && mSt a)
      | 3 => ML.elem (mOw i, x, a, b) && (callOK i a d && mSt a)
      | 7 => M7.elem (mOw i, x) && (decide (1 ≤ mFr i) && decide (8 + (nativeFrameWords "java/lang/System" "arraycopy" 5 + 11) ≤ mLo i))
      | 9 => MM.elem (mOw i, x, a, b) && (decide (1 ≤ mFr i) && decide (23 ≤ mLo i))
      | 10 => MM.elem (mOw i, x, a, b) && (decide (1 ≤ mFr i) && decide (23 ≤ mLo i))
      | 11 => MM.elem (mOw i, x, a, b) && (decide (1 ≤ mFr i) && decide (23 ≤ mLo i))
      | 12 => MM.elem (mOw i, x, a, b) && (decide (1 ≤ mFr i) && decide (23 ≤ mLo i))
      | 13 => MM.elem (mOw i, x, a, b) && (decide (1 ≤ mFr i) && decide (23 ≤ mLo i))
      | 14 => MM.elem (mOw i, x, a, b) && (decide (1 ≤ mFr i) && decide (23 ≤ mLo i))
      | _ => false)
  | .ireturn => decide (nn = pc + 1) && decide (mT i = some .int ∨ mT i = some .boolean)
  | .lreturn => decide (nn = pc + 1) && decide (mT i = some .long)
  | .areturn => decide (nn = pc + 1) && (match mT i with
      | some (.object _) => true
      | some (.array _) => true
      | _ => false)
  | .return_ => decide (nn = pc + 1) && decide (mT i = none)
  | _ => false
def okE (i pc : Nat) (q : Option En) : Bool := match q with
  | some (ins, nn, a, b, d, t, vi, vj, sl) => decide (decode (mB i) pc = .ok (ins, nn - pc)) && okI i pc ins nn a b d t vi vj sl
  | none => true
/-- the table of a method's code is right, from one place to another -/
def okP (i lo n : Nat) : Bool := (List.range n).all (fun k => okE i (lo + k) (zc i (lo + k)))
def okM (i : Nat) : Prop := ∀ pc, okE i pc (zd i pc) = true
theorem okM.of {i : Nat} (h : ∀ pc, pc < zcN i → okE i pc (zc i pc) = true) : okM i := by
  intro pc
  unfold zd
  cases hb : Nat.ble (pc + 1) (zcN i) with
  | false => rfl
  | true => exact h pc (Nat.le_of_ble_eq_true hb)
theorem okP.at {i lo n pc : Nat} (h : okP i lo n = true) (h1 : lo ≤ pc) (h2 : pc < lo + n) : okE i pc (zc i pc) = true := by
  have h3 := List.all_eq_true.mp h (pc - lo) (List.mem_range.mpr (by omega))
  have h4 : lo + (pc - lo) = pc := by omega
  rw [h4] at h3
  exact h3
theorem gI_inv {v : Option Vl} {f : Int32 → Prop} (h : gI v f) : ∃ x, v = some (vI x) ∧ f x := by
  rcases v with _ | x | x | x
  · exact h.elim
  · exact ⟨x, rfl, h⟩
  · exact h.elim
  · exact h.elim
theorem gJ_inv {v : Option Vl} {f : Int64 → Prop} (h : gJ v f) : ∃ x, v = some (vJ x) ∧ f x := by
  rcases v with _ | x | x | x
  · exact h.elim
  · exact h.elim
  · exact ⟨x, rfl, h⟩
  · exact h.elim
theorem gR_inv {v : Option Vl} {f : Rf → Prop} (h : gR v f) : ∃ x, v = some (vR x) ∧ f x := by
  rcases v with _ | x | x | x
  · exact h.elim
  · exact h.elim
  · exact h.elim
  · exact ⟨x, rfl, h⟩
theorem pI_inv {st : List Vl} {f : Int32 → List Vl → Prop} (h : pI st f) : ∃ x r, st = vI x :: r ∧ f x r := by
  rcases st with _ | ⟨x | x | x, r⟩
  · exact h.elim
  · exact ⟨x, r, rfl, h⟩
  · exact h.elim
  · exact h.elim
theorem pJ_inv {st : List Vl} {f : Int64 → List Vl → Prop} (h : pJ st f) : ∃ x r, st = vJ x :: r ∧ f x r := by
  rcases st with _ | ⟨x | x | x, r⟩
  · exact h.elim
  · exact h.elim
  · exact ⟨x, r, rfl, h⟩
  · exact h.elim
theorem pR_inv {st : List Vl} {f : Rf → List Vl → Prop} (h : pR st f) : ∃ x r, st = vR x :: r ∧ f x r := by
  rcases st with _ | ⟨x | x | x, r⟩
  · exact h.elim
  · exact h.elim
  · exact h.elim
  · exact ⟨x, r, rfl, h⟩
theorem pO_inv {st : List Vl} {f : Nat → Nat → List Vl → Prop} (h : pO st f) : ∃ k j r, st = vR (some (k, j)) :: r ∧ f k j r := by
  rcases st with _ | ⟨x | x | _ | ⟨k, j⟩, r⟩
  · exact h.elim
  · exact h.elim
  · exact h.elim
  · exact h.elim
  · exact ⟨k, j, r, rfl, h⟩
theorem p1_inv {st : List Vl} {f : Vl → List Vl → Prop} (h : p1 st f) : ∃ v r, st = v :: r ∧ isJ v = false ∧ f v r := by
  rcases st with _ | ⟨x | x | x, r⟩
  · exact h.elim
  · exact ⟨_, r, rfl, rfl, h⟩
  · exact h.elim
  · exact ⟨_, r, rfl, rfl, h⟩
theorem oK_inv {q : Nat ⊕ (Nat × Nat)} {ci : Nat} {P : Prop} (h : oK q ci P) : q = .inl ci ∧ P := by
  rcases q with c | q
  · have h : cond (Nat.beq c ci) P False := h
    cases hb : Nat.beq c ci with
    | false => rw [hb] at h; exact h.elim
    | true =>
      rw [hb] at h
      exact ⟨by rw [Nat.eq_of_beq_eq_true hb], h⟩
  · exact h.elim
theorem aK_inv {q : Nat ⊕ (Nat × Nat)} {f : Nat → Nat → Prop} (h : aK q f) : ∃ t n, q = .inr (t, n) ∧ f t n := by
  rcases q with c | ⟨t, n⟩
  · exact h.elim
  · exact ⟨t, n, rfl, h⟩
theorem nN_inv {r : Option Rf} {P : Prop} (h : nN r P) : r = none ∧ P := by
  cases r with
  | none => exact ⟨rfl, h⟩
  | some _ => exact h.elim
theorem cond_inv {b : Bool} {P : Prop} (h : cond b P False) : b = true ∧ P := by
  cases b with
  | true => exact ⟨rfl, h⟩
  | false => exact h.elim
theorem popN_inv : ∀ {n : Nat} {acc st : List Vl} {f : List Vl → List Vl → Prop}, popN n acc st f → ∃ as r, st = as.reverse ++ r ∧ as.length = n ∧ f (as ++ acc) r := by
  intro n
  induction n with
  | zero => intro acc st f h; exact ⟨[], st, rfl, rfl, h⟩
  | succ n ih =>
    intro acc st f h
    cases st with
    | nil => exact h.elim
    | cons v st =>
      obtain ⟨as, r, h1, h2, h3⟩ := ih h
      exact ⟨as ++ [v], r, by rw [h1]; simp, by simp [h2], by simpa using h3⟩
/-- how a return instruction, the method's type and the answer fit -/
def retOK (ty : Option FieldType) (ins : Instr) (r : Option Vl) : Prop := match r with
  | none => ins = .return_ ∧ ty = none
  | some (.inl x) => ins = .ireturn ∧ (ty = some .int ∨ (ty = some .boolean ∧ (x = 0 ∨ x = 1)))
  | some (.inr (.inl _)) => ins = .lreturn ∧ ty = some .long
  | some (.inr (.inr _)) => ins = .areturn ∧ ∃ rt, ty = some rt ∧ ((∃ n, rt = .object n) ∨ ∃ t, rt = .array t)
