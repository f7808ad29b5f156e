/-! EACH INSTRUCTION OF THE SMALL MACHINE IS ONE OF THE MACHINE'S: stack and locals -/
section INS
variable {Ω : Om} {md : Bool} {i : Nat} {p : Program} {e : Env} {s : State} {m : MethodId} {args : Array Value} {below : List Frame} {meth : Method} {cf : Code} {Q : State → Prop} {ad0 : Nat → Nat → Nat} {M0 : Mem} {pc : Nat} {ls : List (Option Vl)} {r : List Vl} {M : Mem} {c n : Nat}
theorem zi_iconst (hcx : Cx Ω i p s m meth cf) {v : Int} {x : Int32} (hd : decode (mB i) pc = .ok (.iconst v, 1)) (hv : Int32.ofInt v = x) (hn : WW Ω md i p e s m args below meth cf Q ad0 M0 (pc + 1) ls (vI x :: r) M c n) : WW Ω md i p e s m args below meth cf Q ad0 M0 pc ls r M c n := by
  intro H locs ad lsR hR hL hLo hs hS hc hn2 hE
  exact lv_iconst hcx.1 hcx.2.1 hd hv (hn H locs ad lsR hR hL hLo ⟨VOk_I _ _, hs⟩ hS hc hn2 hE)
theorem zi_bipush (hcx : Cx Ω i p s m meth cf) {v : Int} {x : Int32} (hd : decode (mB i) pc = .ok (.bipush v, 2)) (hv : (Int8.ofInt v).toInt32 = x) (hn : WW Ω md i p e s m args below meth cf Q ad0 M0 (pc + 2) ls (vI x :: r) M c n) : WW Ω md i p e s m args below meth cf Q ad0 M0 pc ls r M c n := by
  intro H locs ad lsR hR hL hLo hs hS hc hn2 hE
  exact lv_bipush hcx.1 hcx.2.1 hd hv (hn H locs ad lsR hR hL hLo ⟨VOk_I _ _, hs⟩ hS hc hn2 hE)
theorem zi_sipush (hcx : Cx Ω i p s m meth cf) {v : Int} {x : Int32} (hd : decode (mB i) pc = .ok (.sipush v, 3)) (hv : (Int16.ofInt v).toInt32 = x) (hn : WW Ω md i p e s m args below meth cf Q ad0 M0 (pc + 3) ls (vI x :: r) M c n) : WW Ω md i p e s m args below meth cf Q ad0 M0 pc ls r M c n := by
  intro H locs ad lsR hR hL hLo hs hS hc hn2 hE
  exact lv_sipush hcx.1 hcx.2.1 hd hv (hn H locs ad lsR hR hL hLo ⟨VOk_I _ _, hs⟩ hS hc hn2 hE)
theorem zi_lconst (hcx : Cx Ω i p s m meth cf) {v : Fin 2} {x : Int64} (hd : decode (mB i) pc = .ok (.lconst v, 1)) (hv : Int64.ofNat (v : Nat) = x) (hn : WW Ω md i p e s m args below meth cf Q ad0 M0 (pc + 1) ls (vJ x :: r) M c n) : WW Ω md i p e s m args below meth cf Q ad0 M0 pc ls r M c n := by
  intro H locs ad lsR hR hL hLo hs hS hc hn2 hE
  exact lv_lconst hcx.1 hcx.2.1 hd hv (hn H locs ad lsR hR hL hLo ⟨VOk_J _ _, hs⟩ hS hc hn2 hE)
theorem zi_null (hcx : Cx Ω i p s m meth cf) (hd : decode (mB i) pc = .ok (.aconst_null, 1)) (hn : WW Ω md i p e s m args below meth cf Q ad0 M0 (pc + 1) ls (vR none :: r) M c n) : WW Ω md i p e s m args below meth cf Q ad0 M0 pc ls r M c n := by
  intro H locs ad lsR hR hL hLo hs hS hc hn2 hE
  exact lv_null hcx.1 hcx.2.1 hd (hn H locs ad lsR hR hL hLo ⟨VOk_N _, hs⟩ hS hc hn2 hE)
theorem zi_ldc (hcx : Cx Ω i p s m meth cf) {x : Nat} {v : Int32} (hd : decode (mB i) pc = .ok (.ldc x, 2)) (hw : Cond.constant (ownR (mOw i)) x v ∈ gw) (hn : WW Ω md i p e s m args below meth cf Q ad0 M0 (pc + 2) ls (vI v :: r) M c n) : WW Ω md i p e s m args below meth cf Q ad0 M0 pc ls r M c n := by
  intro H locs ad lsR hR hL hLo hs hS hc hn2 hE
  exact lv_ldc hcx.1 hcx.2.1 hcx.2.2.2.1 (hcx.2.2.2.2.1.1 _ hw args) hd (hn H locs ad lsR hR hL hLo ⟨VOk_I _ _, hs⟩ hS hc hn2 hE)
theorem zi_ldc_w (hcx : Cx Ω i p s m meth cf) {x : Nat} {v : Int32} (hd : decode (mB i) pc = .ok (.ldc_w x, 3)) (hw : Cond.constant (ownR (mOw i)) x v ∈ gw) (hn : WW Ω md i p e s m args below meth cf Q ad0 M0 (pc + 3) ls (vI v :: r) M c n) : WW Ω md i p e s m args below meth cf Q ad0 M0 pc ls r M c n := by
  intro H locs ad lsR hR hL hLo hs hS hc hn2 hE
  exact lv_ldcw hcx.1 hcx.2.1 hcx.2.2.2.1 (hcx.2.2.2.2.1.1 _ hw args) hd (hn H locs ad lsR hR hL hLo ⟨VOk_I _ _, hs⟩ hS hc hn2 hE)
theorem zi_ldc2 (hcx : Cx Ω i p s m meth cf) {x : Nat} {v : Int64} (hd : decode (mB i) pc = .ok (.ldc2_w x, 3)) (hw : Cond.constantLong (ownR (mOw i)) x v ∈ gw) (hn : WW Ω md i p e s m args below meth cf Q ad0 M0 (pc + 3) ls (vJ v :: r) M c n) : WW Ω md i p e s m args below meth cf Q ad0 M0 pc ls r M c n := by
  intro H locs ad lsR hR hL hLo hs hS hc hn2 hE
  exact lv_ldc2 hcx.1 hcx.2.1 hcx.2.2.2.1 (hcx.2.2.2.2.1.1 _ hw args) hd (hn H locs ad lsR hR hL hLo ⟨VOk_J _ _, hs⟩ hS hc hn2 hE)
theorem zi_iload (hcx : Cx Ω i p s m meth cf) {a : Nat} {x : Int32} (hd : decode (mB i) pc = .ok (.iload a, 2)) (hl : lG ls a = some (vI x)) (hn : WW Ω md i p e s m args below meth cf Q ad0 M0 (pc + 2) ls (vI x :: r) M c n) : WW Ω md i p e s m args below meth cf Q ad0 M0 pc ls r M c n := by
  intro H locs ad lsR hR hL hLo hs hS hc hn2 hE
  exact lv_iload hcx.1 hcx.2.1 hd (hL.2.2 a _ hl) (hn H locs ad lsR hR hL hLo ⟨VOk_I _ _, hs⟩ hS hc hn2 hE)
theorem zi_iload_n (hcx : Cx Ω i p s m meth cf) {a : Nat} {k : Fin 4} {x : Int32} (hd : decode (mB i) pc = .ok (.iload_n k, 1)) (ha : (k : Nat) = a) (hl : lG ls a = some (vI x)) (hn : WW Ω md i p e s m args below meth cf Q ad0 M0 (pc + 1) ls (vI x :: r) M c n) : WW Ω md i p e s m args below meth cf Q ad0 M0 pc ls r M c n := by
  intro H locs ad lsR hR hL hLo hs hS hc hn2 hE
  exact lv_iload_n hcx.1 hcx.2.1 hd ha (hL.2.2 a _ hl) (hn H locs ad lsR hR hL hLo ⟨VOk_I _ _, hs⟩ hS hc hn2 hE)
theorem zi_lload (hcx : Cx Ω i p s m meth cf) {a : Nat} {x : Int64} (hd : decode (mB i) pc = .ok (.lload a, 2)) (hl : lG ls a = some (vJ x)) (hn : WW Ω md i p e s m args below meth cf Q ad0 M0 (pc + 2) ls (vJ x :: r) M c n) : WW Ω md i p e s m args below meth cf Q ad0 M0 pc ls r M c n := by
  intro H locs ad lsR hR hL hLo hs hS hc hn2 hE
  exact lv_lload hcx.1 hcx.2.1 hd (hL.2.2 a _ hl) (hn H locs ad lsR hR hL hLo ⟨VOk_J _ _, hs⟩ hS hc hn2 hE)
theorem zi_lload_n (hcx : Cx Ω i p s m meth cf) {a : Nat} {k : Fin 4} {x : Int64} (hd : decode (mB i) pc = .ok (.lload_n k, 1)) (ha : (k : Nat) = a) (hl : lG ls a = some (vJ x)) (hn : WW Ω md i p e s m args below meth cf Q ad0 M0 (pc + 1) ls (vJ x :: r) M c n) : WW Ω md i p e s m args below meth cf Q ad0 M0 pc ls r M c n := by
  intro H locs ad lsR hR hL hLo hs hS hc hn2 hE
  exact lv_lload_n hcx.1 hcx.2.1 hd ha (hL.2.2 a _ hl) (hn H locs ad lsR hR hL hLo ⟨VOk_J _ _, hs⟩ hS hc hn2 hE)
theorem zi_aload (hcx : Cx Ω i p s m meth cf) {a : Nat} {x : Rf} (hd : decode (mB i) pc = .ok (.aload a, 2)) (hl : lG ls a = some (vR x)) (hn : WW Ω md i p e s m args below meth cf Q ad0 M0 (pc + 2) ls (vR x :: r) M c n) : WW Ω md i p e s m args below meth cf Q ad0 M0 pc ls r M c n := by
  intro H locs ad lsR hR hL hLo hs hS hc hn2 hE
  have hk := hn H locs ad lsR hR hL hLo ⟨hLo a _ hl, hs⟩ hS hc hn2 hE
  have hz := hL.2.2 a _ hl
  cases x with
  | none => exact lv_aloadN hcx.1 hcx.2.1 hd hz hk
  | some q => exact lv_aload hcx.1 hcx.2.1 hd hz hk
theorem zi_aload_n (hcx : Cx Ω i p s m meth cf) {a : Nat} {k : Fin 4} {x : Rf} (hd : decode (mB i) pc = .ok (.aload_n k, 1)) (ha : (k : Nat) = a) (hl : lG ls a = some (vR x)) (hn : WW Ω md i p e s m args below meth cf Q ad0 M0 (pc + 1) ls (vR x :: r) M c n) : WW Ω md i p e s m args below meth cf Q ad0 M0 pc ls r M c n := by
  intro H locs ad lsR hR hL hLo hs hS hc hn2 hE
  have hk := hn H locs ad lsR hR hL hLo ⟨hLo a _ hl, hs⟩ hS hc hn2 hE
  have hz := hL.2.2 a _ hl
  cases x with
  | none => exact lv_aload_nN hcx.1 hcx.2.1 hd ha hz hk
  | some q => exact lv_aload_n hcx.1 hcx.2.1 hd ha hz hk
theorem zi_istore (hcx : Cx Ω i p s m meth cf) {a : Nat} {x : Int32} (hd : decode (mB i) pc = .ok (.istore a, 2)) (hlt : a < mL i) (hn : WW Ω md i p e s m args below meth cf Q ad0 M0 (pc + 2) (l1 ls a (vI x)) r M c n) : WW Ω md i p e s m args below meth cf Q ad0 M0 pc ls (vI x :: r) M c n := by
  intro H locs ad lsR hR hL hLo hs hS hc hn2 hE
  exact lv_istore hcx.1 hcx.2.1 hd hL.has hlt rfl (fun ls2 h2 => hn H locs ad ls2 hR (hL.set1 h2) (hLo.l1 (VOk_I _ _)) hs.2 hS hc hn2 hE)
theorem zi_lstore (hcx : Cx Ω i p s m meth cf) {a : Nat} {x : Int64} (hd : decode (mB i) pc = .ok (.lstore a, 2)) (hlt : a + 1 < mL i) (hn : WW Ω md i p e s m args below meth cf Q ad0 M0 (pc + 2) (l2 ls a (vJ x)) r M c n) : WW Ω md i p e s m args below meth cf Q ad0 M0 pc ls (vJ x :: r) M c n := by
  intro H locs ad lsR hR hL hLo hs hS hc hn2 hE
  exact lv_lstore hcx.1 hcx.2.1 hd hL.has hlt rfl (fun ls2 h2 => hn H locs ad ls2 hR (hL.set2 h2) (hLo.l2 (VOk_J _ _)) hs.2 hS hc hn2 hE)
theorem zi_astore (hcx : Cx Ω i p s m meth cf) {a : Nat} {x : Rf} (hd : decode (mB i) pc = .ok (.astore a, 2)) (hlt : a < mL i) (hn : WW Ω md i p e s m args below meth cf Q ad0 M0 (pc + 2) (l1 ls a (vR x)) r M c n) : WW Ω md i p e s m args below meth cf Q ad0 M0 pc ls (vR x :: r) M c n := by
  intro H locs ad lsR hR hL hLo hs hS hc hn2 hE
  cases x with
  | none => exact lv_astoreN hcx.1 hcx.2.1 hd hL.has hlt rfl (fun ls2 h2 => hn H locs ad ls2 hR (hL.set1 (v := vR none) h2) (hLo.l1 hs.1) hs.2 hS hc hn2 hE)
  | some q => exact lv_astore hcx.1 hcx.2.1 hd hL.has hlt rfl (fun ls2 h2 => hn H locs ad ls2 hR (hL.set1 (v := vR (some q)) h2) (hLo.l1 hs.1) hs.2 hS hc hn2 hE)
theorem zi_istore_n (hcx : Cx Ω i p s m meth cf) {a : Nat} {k : Fin 4} {x : Int32} (hd : decode (mB i) pc = .ok (.istore_n k, 1)) (ha : (k : Nat) = a) (hlt : a < mL i) (hn : WW Ω md i p e s m args below meth cf Q ad0 M0 (pc + 1) (l1 ls a (vI x)) r M c n) : WW Ω md i p e s m args below meth cf Q ad0 M0 pc ls (vI x :: r) M c n := by
  intro H locs ad lsR hR hL hLo hs hS hc hn2 hE
  exact lv_istore_n hcx.1 hcx.2.1 hd ha hL.has hlt rfl (fun ls2 h2 => hn H locs ad ls2 hR (hL.set1 h2) (hLo.l1 (VOk_I _ _)) hs.2 hS hc hn2 hE)
theorem zi_lstore_n (hcx : Cx Ω i p s m meth cf) {a : Nat} {k : Fin 4} {x : Int64} (hd : decode (mB i) pc = .ok (.lstore_n k, 1)) (ha : (k : Nat) = a) (hlt : a + 1 < mL i) (hn : WW Ω md i p e s m args below meth cf Q ad0 M0 (pc + 1) (l2 ls a (vJ x)) r M c n) : WW Ω md i p e s m args below meth cf Q ad0 M0 pc ls (vJ x :: r) M c n := by
  intro H locs ad lsR hR hL hLo hs hS hc hn2 hE
  exact lv_lstore_n hcx.1 hcx.2.1 hd ha hL.has hlt rfl (fun ls2 h2 => hn H locs ad ls2 hR (hL.set2 h2) (hLo.l2 (VOk_J _ _)) hs.2 hS hc hn2 hE)
theorem zi_astore_n (hcx : Cx Ω i p s m meth cf) {a : Nat} {k : Fin 4} {x : Rf} (hd : decode (mB i) pc = .ok (.astore_n k, 1)) (ha : (k : Nat) = a) (hlt : a < mL i) (hn : WW Ω md i p e s m args below meth cf Q ad0 M0 (pc + 1) (l1 ls a (vR x)) r M c n) : WW Ω md i p e s m args below meth cf Q ad0 M0 pc ls (vR x :: r) M c n := by
  intro H locs ad lsR hR hL hLo hs hS hc hn2 hE
  cases x with
  | none => exact lv_astore_nN hcx.1 hcx.2.1 hd ha hL.has hlt rfl (fun ls2 h2 => hn H locs ad ls2 hR (hL.set1 (v := vR none) h2) (hLo.l1 hs.1) hs.2 hS hc hn2 hE)
  | some q => exact lv_astore_n hcx.1 hcx.2.1 hd ha hL.has hlt rfl (fun ls2 h2 => hn H locs ad ls2 hR (hL.set1 (v := vR (some q)) h2) (hLo.l1 hs.1) hs.2 hS hc hn2 hE)
theorem zi_iinc (hcx : Cx Ω i p s m meth cf) {a : Nat} {v : Int} {x y : Int32} (hd : decode (mB i) pc = .ok (.iinc a v, 3)) (hv : Int32.ofInt v = y) (hl : lG ls a = some (vI x)) (hlt : a < mL i) (hn : WW Ω md i p e s m args below meth cf Q ad0 M0 (pc + 3) (l1 ls a (vI (x + y))) r M c n) : WW Ω md i p e s m args below meth cf Q ad0 M0 pc ls r M c n := by
  intro H locs ad lsR hR hL hLo hs hS hc hn2 hE
  subst hv
  obtain ⟨k, hk⟩ := List.getElem?_of_mem (zz_asL.mpr ⟨hlt, vI x, hl, rfl⟩ : (a, Value.int x) ∈ asL ad ls (mL i))
  exact lv_iinc hcx.1 hcx.2.1 hd hL.has hk rfl hlt rfl (fun ls2 h2 => hn H locs ad ls2 hR (hL.set1 (v := vI (x + Int32.ofInt v)) h2) (hLo.l1 (VOk_I _ _)) hs hS hc hn2 hE)
theorem zi_iadd (hcx : Cx Ω i p s m meth cf) {x y : Int32} (hd : decode (mB i) pc = .ok (.iadd, 1)) (hn : WW Ω md i p e s m args below meth cf Q ad0 M0 (pc + 1) ls (vI (x + y) :: r) M c n) : WW Ω md i p e s m args below meth cf Q ad0 M0 pc ls (vI y :: vI x :: r) M c n := by
  intro H locs ad lsR hR hL hLo hs hS hc hn2 hE
  exact lv_iadd hcx.1 hcx.2.1 hd (hn H locs ad lsR hR hL hLo ⟨VOk_I _ _, hs.2.2⟩ hS hc hn2 hE)
theorem zi_isub (hcx : Cx Ω i p s m meth cf) {x y : Int32} (hd : decode (mB i) pc = .ok (.isub, 1)) (hn : WW Ω md i p e s m args below meth cf Q ad0 M0 (pc + 1) ls (vI (x - y) :: r) M c n) : WW Ω md i p e s m args below meth cf Q ad0 M0 pc ls (vI y :: vI x :: r) M c n := by
  intro H locs ad lsR hR hL hLo hs hS hc hn2 hE
  exact lv_isub hcx.1 hcx.2.1 hd (hn H locs ad lsR hR hL hLo ⟨VOk_I _ _, hs.2.2⟩ hS hc hn2 hE)
theorem zi_imul (hcx : Cx Ω i p s m meth cf) {x y : Int32} (hd : decode (mB i) pc = .ok (.imul, 1)) (hn : WW Ω md i p e s m args below meth cf Q ad0 M0 (pc + 1) ls (vI (x * y) :: r) M c n) : WW Ω md i p e s m args below meth cf Q ad0 M0 pc ls (vI y :: vI x :: r) M c n := by
  intro H locs ad lsR hR hL hLo hs hS hc hn2 hE
  exact lv_imul hcx.1 hcx.2.1 hd (hn H locs ad lsR hR hL hLo ⟨VOk_I _ _, hs.2.2⟩ hS hc hn2 hE)
theorem zi_iand (hcx : Cx Ω i p s m meth cf) {x y : Int32} (hd : decode (mB i) pc = .ok (.iand, 1)) (hn : WW Ω md i p e s m args below meth cf Q ad0 M0 (pc + 1) ls (vI (x &&& y) :: r) M c n) : WW Ω md i p e s m args below meth cf Q ad0 M0 pc ls (vI y :: vI x :: r) M c n := by
  intro H locs ad lsR hR hL hLo hs hS hc hn2 hE
  exact lv_iand hcx.1 hcx.2.1 hd (hn H locs ad lsR hR hL hLo ⟨VOk_I _ _, hs.2.2⟩ hS hc hn2 hE)
theorem zi_ishl (hcx : Cx Ω i p s m meth cf) {x y : Int32} (hd : decode (mB i) pc = .ok (.ishl, 1)) (hn : WW Ω md i p e s m args below meth cf Q ad0 M0 (pc + 1) ls (vI (x <<< (y &&& 31)) :: r) M c n) : WW Ω md i p e s m args below meth cf Q ad0 M0 pc ls (vI y :: vI x :: r) M c n := by
  intro H locs ad lsR hR hL hLo hs hS hc hn2 hE
  exact lv_ishl hcx.1 hcx.2.1 hd (hn H locs ad lsR hR hL hLo ⟨VOk_I _ _, hs.2.2⟩ hS hc hn2 hE)
theorem zi_ishr (hcx : Cx Ω i p s m meth cf) {x y : Int32} (hd : decode (mB i) pc = .ok (.ishr, 1)) (hn : WW Ω md i p e s m args below meth cf Q ad0 M0 (pc + 1) ls (vI (x >>> (y &&& 31)) :: r) M c n) : WW Ω md i p e s m args below meth cf Q ad0 M0 pc ls (vI y :: vI x :: r) M c n := by
  intro H locs ad lsR hR hL hLo hs hS hc hn2 hE
  exact lv_ishr hcx.1 hcx.2.1 hd (hn H locs ad lsR hR hL hLo ⟨VOk_I _ _, hs.2.2⟩ hS hc hn2 hE)
theorem zi_iushr (hcx : Cx Ω i p s m meth cf) {x y : Int32} (hd : decode (mB i) pc = .ok (.iushr, 1)) (hn : WW Ω md i p e s m args below meth cf Q ad0 M0 (pc + 1) ls (vI ((x.toUInt32 >>> (y.toUInt32 &&& Int32.toUInt32 31)).toInt32) :: r) M c n) : WW Ω md i p e s m args below meth cf Q ad0 M0 pc ls (vI y :: vI x :: r) M c n := by
  intro H locs ad lsR hR hL hLo hs hS hc hn2 hE
  exact lv_iushr hcx.1 hcx.2.1 hd rfl (hn H locs ad lsR hR hL hLo ⟨VOk_I _ _, hs.2.2⟩ hS hc hn2 hE)
theorem zi_idiv (hcx : Cx Ω i p s m meth cf) {x y : Int32} (hd : decode (mB i) pc = .ok (.idiv, 1)) (h0 : ¬ y = 0) (hn : WW Ω md i p e s m args below meth cf Q ad0 M0 (pc + 1) ls (vI (x / y) :: r) M c n) : WW Ω md i p e s m args below meth cf Q ad0 M0 pc ls (vI y :: vI x :: r) M c n := by
  intro H locs ad lsR hR hL hLo hs hS hc hn2 hE
  exact lv_idiv hcx.1 hcx.2.1 hd h0 (hn H locs ad lsR hR hL hLo ⟨VOk_I _ _, hs.2.2⟩ hS hc hn2 hE)
theorem zi_irem (hcx : Cx Ω i p s m meth cf) {x y : Int32} (hd : decode (mB i) pc = .ok (.irem, 1)) (h0 : ¬ y = 0) (hn : WW Ω md i p e s m args below meth cf Q ad0 M0 (pc + 1) ls (vI (x - x / y * y) :: r) M c n) : WW Ω md i p e s m args below meth cf Q ad0 M0 pc ls (vI y :: vI x :: r) M c n := by
  intro H locs ad lsR hR hL hLo hs hS hc hn2 hE
  exact lv_irem hcx.1 hcx.2.1 hd h0 (hn H locs ad lsR hR hL hLo ⟨VOk_I _ _, hs.2.2⟩ hS hc hn2 hE)
theorem zi_ineg (hcx : Cx Ω i p s m meth cf) {x : Int32} (hd : decode (mB i) pc = .ok (.ineg, 1)) (hn : WW Ω md i p e s m args below meth cf Q ad0 M0 (pc + 1) ls (vI (-x) :: r) M c n) : WW Ω md i p e s m args below meth cf Q ad0 M0 pc ls (vI x :: r) M c n := by
  intro H locs ad lsR hR hL hLo hs hS hc hn2 hE
  exact lv_ineg hcx.1 hcx.2.1 hd (hn H locs ad lsR hR hL hLo ⟨VOk_I _ _, hs.2⟩ hS hc hn2 hE)
theorem zi_ladd (hcx : Cx Ω i p s m meth cf) {x y : Int64} (hd : decode (mB i) pc = .ok (.ladd, 1)) (hn : WW Ω md i p e s m args below meth cf Q ad0 M0 (pc + 1) ls (vJ (x + y) :: r) M c n) : WW Ω md i p e s m args below meth cf Q ad0 M0 pc ls (vJ y :: vJ x :: r) M c n := by
  intro H locs ad lsR hR hL hLo hs hS hc hn2 hE
  exact lv_ladd hcx.1 hcx.2.1 hd (hn H locs ad lsR hR hL hLo ⟨VOk_J _ _, hs.2.2⟩ hS hc hn2 hE)
theorem zi_lsub (hcx : Cx Ω i p s m meth cf) {x y : Int64} (hd : decode (mB i) pc = .ok (.lsub, 1)) (hn : WW Ω md i p e s m args below meth cf Q ad0 M0 (pc + 1) ls (vJ (x - y) :: r) M c n) : WW Ω md i p e s m args below meth cf Q ad0 M0 pc ls (vJ y :: vJ x :: r) M c n := by
  intro H locs ad lsR hR hL hLo hs hS hc hn2 hE
  exact lv_lsub hcx.1 hcx.2.1 hd (hn H locs ad lsR hR hL hLo ⟨VOk_J _ _, hs.2.2⟩ hS hc hn2 hE)
theorem zi_lmul (hcx : Cx Ω i p s m meth cf) {x y : Int64} (hd : decode (mB i) pc = .ok (.lmul, 1)) (hn : WW Ω md i p e s m args below meth cf Q ad0 M0 (pc + 1) ls (vJ (x * y) :: r) M c n) : WW Ω md i p e s m args below meth cf Q ad0 M0 pc ls (vJ y :: vJ x :: r) M c n := by
  intro H locs ad lsR hR hL hLo hs hS hc hn2 hE
  exact lv_lmul hcx.1 hcx.2.1 hd (hn H locs ad lsR hR hL hLo ⟨VOk_J _ _, hs.2.2⟩ hS hc hn2 hE)
theorem zi_ldiv (hcx : Cx Ω i p s m meth cf) {x y : Int64} (hd : decode (mB i) pc = .ok (.ldiv, 1)) (h0 : ¬ y = 0) (hn : WW Ω md i p e s m args below meth cf Q ad0 M0 (pc + 1) ls (vJ (x / y) :: r) M c n) : WW Ω md i p e s m args below meth cf Q ad0 M0 pc ls (vJ y :: vJ x :: r) M c n := by
  intro H locs ad lsR hR hL hLo hs hS hc hn2 hE
  exact lv_ldiv hcx.1 hcx.2.1 hd h0 (hn H locs ad lsR hR hL hLo ⟨VOk_J _ _, hs.2.2⟩ hS hc hn2 hE)
theorem zi_lneg (hcx : Cx Ω i p s m meth cf) {x : Int64} (hd : decode (mB i) pc = .ok (.lneg, 1)) (hn : WW Ω md i p e s m args below meth cf Q ad0 M0 (pc + 1) ls (vJ (-x) :: r) M c n) : WW Ω md i p e s m args below meth cf Q ad0 M0 pc ls (vJ x :: r) M c n := by
  intro H locs ad lsR hR hL hLo hs hS hc hn2 hE
  exact lv_lneg hcx.1 hcx.2.1 hd (hn H locs ad lsR hR hL hLo ⟨VOk_J _ _, hs.2⟩ hS hc hn2 hE)
theorem zi_lcmp (hcx : Cx Ω i p s m meth cf) {x y : Int64} (hd : decode (mB i) pc = .ok (.lcmp, 1)) (hn : WW Ω md i p e s m args below meth cf Q ad0 M0 (pc + 1) ls (vI (lg_cmp x y) :: r) M c n) : WW Ω md i p e s m args below meth cf Q ad0 M0 pc ls (vJ y :: vJ x :: r) M c n := by
  intro H locs ad lsR hR hL hLo hs hS hc hn2 hE
  exact W.lcmp hcx.1 hcx.2.1 hd (hn H locs ad lsR hR hL hLo ⟨VOk_I _ _, hs.2.2⟩ hS hc hn2 hE)
theorem zi_i2l (hcx : Cx Ω i p s m meth cf) {x : Int32} (hd : decode (mB i) pc = .ok (.i2l, 1)) (hn : WW Ω md i p e s m args below meth cf Q ad0 M0 (pc + 1) ls (vJ x.toInt64 :: r) M c n) : WW Ω md i p e s m args below meth cf Q ad0 M0 pc ls (vI x :: r) M c n := by
  intro H locs ad lsR hR hL hLo hs hS hc hn2 hE
  exact lv_i2l hcx.1 hcx.2.1 hd rfl (hn H locs ad lsR hR hL hLo ⟨VOk_J _ _, hs.2⟩ hS hc hn2 hE)
theorem zi_l2i (hcx : Cx Ω i p s m meth cf) {x : Int64} (hd : decode (mB i) pc = .ok (.l2i, 1)) (hn : WW Ω md i p e s m args below meth cf Q ad0 M0 (pc + 1) ls (vI x.toInt32 :: r) M c n) : WW Ω md i p e s m args below meth cf Q ad0 M0 pc ls (vJ x :: r) M c n := by
  intro H locs ad lsR hR hL hLo hs hS hc hn2 hE
  exact lv_l2i hcx.1 hcx.2.1 hd rfl (hn H locs ad lsR hR hL hLo ⟨VOk_I _ _, hs.2⟩ hS hc hn2 hE)
theorem zi_i2b (hcx : Cx Ω i p s m meth cf) {x : Int32} (hd : decode (mB i) pc = .ok (.i2b, 1)) (hn : WW Ω md i p e s m args below meth cf Q ad0 M0 (pc + 1) ls (vI x.toInt8.toInt32 :: r) M c n) : WW Ω md i p e s m args below meth cf Q ad0 M0 pc ls (vI x :: r) M c n := by
  intro H locs ad lsR hR hL hLo hs hS hc hn2 hE
  exact lv_i2b hcx.1 hcx.2.1 hd rfl (hn H locs ad lsR hR hL hLo ⟨VOk_I _ _, hs.2⟩ hS hc hn2 hE)
theorem zi_dup (hcx : Cx Ω i p s m meth cf) {v : Vl} (hd : decode (mB i) pc = .ok (.dup, 1)) (hv : isJ v = false) (hn : WW Ω md i p e s m args below meth cf Q ad0 M0 (pc + 1) ls (v :: v :: r) M c n) : WW Ω md i p e s m args below meth cf Q ad0 M0 pc ls (v :: r) M c n := by
  intro H locs ad lsR hR hL hLo hs hS hc hn2 hE
  exact lv_dup hcx.1 hcx.2.1 hd (by rw [zz_cat, hv]; rfl) (hn H locs ad lsR hR hL hLo ⟨hs.1, hs⟩ hS hc hn2 hE)
theorem zi_dup2 (hcx : Cx Ω i p s m meth cf) {v w : Vl} (hd : decode (mB i) pc = .ok (.dup2, 1)) (hv : isJ v = false) (hw : isJ w = false) (hn : WW Ω md i p e s m args below meth cf Q ad0 M0 (pc + 1) ls (v :: w :: v :: w :: r) M c n) : WW Ω md i p e s m args below meth cf Q ad0 M0 pc ls (v :: w :: r) M c n := by
  intro H locs ad lsR hR hL hLo hs hS hc hn2 hE
  exact lv_dup2_11 hcx.1 hcx.2.1 hd (by rw [zz_cat, hv]; rfl) (by rw [zz_cat, hw]; rfl) (hn H locs ad lsR hR hL hLo ⟨hs.1, hs.2.1, hs⟩ hS hc hn2 hE)
theorem zi_if_eq (hcx : Cx Ω i p s m meth cf) {x : Int32} {off : Int} (hd : decode (mB i) pc = .ok (.ifCond .eq off, 3)) {tgt : Nat} (ht : (pc : Int) + off = (tgt : Int)) (kt : (x = 0) → WW Ω md i p e s m args below meth cf Q ad0 M0 tgt ls r M c n) (kf : ¬ (x = 0) → WW Ω md i p e s m args below meth cf Q ad0 M0 (pc + 3) ls r M c n) : WW Ω md i p e s m args below meth cf Q ad0 M0 pc ls (vI x :: r) M c n := by
  intro H locs ad lsR hR hL hLo hs hS hc hn2 hE
  exact lv_if_eq hcx.1 hcx.2.1 hd ht (fun h => kt h H locs ad lsR hR hL hLo hs.2 hS hc hn2 hE) (fun h => kf h H locs ad lsR hR hL hLo hs.2 hS hc hn2 hE)
theorem zi_icmp_eq (hcx : Cx Ω i p s m meth cf) {x y : Int32} {off : Int} (hd : decode (mB i) pc = .ok (.if_icmp .eq off, 3)) {tgt : Nat} (ht : (pc : Int) + off = (tgt : Int)) (kt : (x = y) → WW Ω md i p e s m args below meth cf Q ad0 M0 tgt ls r M c n) (kf : ¬ (x = y) → WW Ω md i p e s m args below meth cf Q ad0 M0 (pc + 3) ls r M c n) : WW Ω md i p e s m args below meth cf Q ad0 M0 pc ls (vI y :: vI x :: r) M c n := by
  intro H locs ad lsR hR hL hLo hs hS hc hn2 hE
  exact lv_icmp_eq hcx.1 hcx.2.1 hd ht (fun h => kt h H locs ad lsR hR hL hLo hs.2.2 hS hc hn2 hE) (fun h => kf h H locs ad lsR hR hL hLo hs.2.2 hS hc hn2 hE)
theorem zi_if_ne (hcx : Cx Ω i p s m meth cf) {x : Int32} {off : Int} (hd : decode (mB i) pc = .ok (.ifCond .ne off, 3)) {tgt : Nat} (ht : (pc : Int) + off = (tgt : Int)) (kt : (¬ x = 0) → WW Ω md i p e s m args below meth cf Q ad0 M0 tgt ls r M c n) (kf : (x = 0) → WW Ω md i p e s m args below meth cf Q ad0 M0 (pc + 3) ls r M c n) : WW Ω md i p e s m args below meth cf Q ad0 M0 pc ls (vI x :: r) M c n := by
  intro H locs ad lsR hR hL hLo hs hS hc hn2 hE
  exact lv_if_ne hcx.1 hcx.2.1 hd ht (fun h => kt h H locs ad lsR hR hL hLo hs.2 hS hc hn2 hE) (fun h => kf h H locs ad lsR hR hL hLo hs.2 hS hc hn2 hE)
theorem zi_icmp_ne (hcx : Cx Ω i p s m meth cf) {x y : Int32} {off : Int} (hd : decode (mB i) pc = .ok (.if_icmp .ne off, 3)) {tgt : Nat} (ht : (pc : Int) + off = (tgt : Int)) (kt : (¬ x = y) → WW Ω md i p e s m args below meth cf Q ad0 M0 tgt ls r M c n) (kf : (x = y) → WW Ω md i p e s m args below meth cf Q ad0 M0 (pc + 3) ls r M c n) : WW Ω md i p e s m args below meth cf Q ad0 M0 pc ls (vI y :: vI x :: r) M c n := by
  intro H locs ad lsR hR hL hLo hs hS hc hn2 hE
  exact lv_icmp_ne hcx.1 hcx.2.1 hd ht (fun h => kt h H locs ad lsR hR hL hLo hs.2.2 hS hc hn2 hE) (fun h => kf h H locs ad lsR hR hL hLo hs.2.2 hS hc hn2 hE)
theorem zi_if_lt (hcx : Cx Ω i p s m meth cf) {x : Int32} {off : Int} (hd : decode (mB i) pc = .ok (.ifCond .lt off, 3)) {tgt : Nat} (ht : (pc : Int) + off = (tgt : Int)) (kt : (x < 0) → WW Ω md i p e s m args below meth cf Q ad0 M0 tgt ls r M c n) (kf : ¬ (x < 0) → WW Ω md i p e s m args below meth cf Q ad0 M0 (pc + 3) ls r M c n) : WW Ω md i p e s m args below meth cf Q ad0 M0 pc ls (vI x :: r) M c n := by
  intro H locs ad lsR hR hL hLo hs hS hc hn2 hE
  exact lv_if_lt hcx.1 hcx.2.1 hd ht (fun h => kt h H locs ad lsR hR hL hLo hs.2 hS hc hn2 hE) (fun h => kf h H locs ad lsR hR hL hLo hs.2 hS hc hn2 hE)
theorem zi_icmp_lt (hcx : Cx Ω i p s m meth cf) {x y : Int32} {off : Int} (hd : decode (mB i) pc = .ok (.if_icmp .lt off, 3)) {tgt : Nat} (ht : (pc : Int) + off = (tgt : Int)) (kt : (x < y) → WW Ω md i p e s m args below meth cf Q ad0 M0 tgt ls r M c n) (kf : ¬ (x < y) → WW Ω md i p e s m args below meth cf Q ad0 M0 (pc + 3) ls r M c n) : WW Ω md i p e s m args below meth cf Q ad0 M0 pc ls (vI y :: vI x :: r) M c n := by
  intro H locs ad lsR hR hL hLo hs hS hc hn2 hE
  exact lv_icmp_lt hcx.1 hcx.2.1 hd ht (fun h => kt h H locs ad lsR hR hL hLo hs.2.2 hS hc hn2 hE) (fun h => kf h H locs ad lsR hR hL hLo hs.2.2 hS hc hn2 hE)
theorem zi_if_ge (hcx : Cx Ω i p s m meth cf) {x : Int32} {off : Int} (hd : decode (mB i) pc = .ok (.ifCond .ge off, 3)) {tgt : Nat} (ht : (pc : Int) + off = (tgt : Int)) (kt : (0 ≤ x) → WW Ω md i p e s m args below meth cf Q ad0 M0 tgt ls r M c n) (kf : ¬ (0 ≤ x) → WW Ω md i p e s m args below meth cf Q ad0 M0 (pc + 3) ls r M c n) : WW Ω md i p e s m args below meth cf Q ad0 M0 pc ls (vI x :: r) M c n := by
  intro H locs ad lsR hR hL hLo hs hS hc hn2 hE
  exact lv_if_ge hcx.1 hcx.2.1 hd ht (fun h => kt h H locs ad lsR hR hL hLo hs.2 hS hc hn2 hE) (fun h => kf h H locs ad lsR hR hL hLo hs.2 hS hc hn2 hE)
theorem zi_icmp_ge (hcx : Cx Ω i p s m meth cf) {x y : Int32} {off : Int} (hd : decode (mB i) pc = .ok (.if_icmp .ge off, 3)) {tgt : Nat} (ht : (pc : Int) + off = (tgt : Int)) (kt : (y ≤ x) → WW Ω md i p e s m args below meth cf Q ad0 M0 tgt ls r M c n) (kf : ¬ (y ≤ x) → WW Ω md i p e s m args below meth cf Q ad0 M0 (pc + 3) ls r M c n) : WW Ω md i p e s m args below meth cf Q ad0 M0 pc ls (vI y :: vI x :: r) M c n := by
  intro H locs ad lsR hR hL hLo hs hS hc hn2 hE
  exact lv_icmp_ge hcx.1 hcx.2.1 hd ht (fun h => kt h H locs ad lsR hR hL hLo hs.2.2 hS hc hn2 hE) (fun h => kf h H locs ad lsR hR hL hLo hs.2.2 hS hc hn2 hE)
theorem zi_if_gt (hcx : Cx Ω i p s m meth cf) {x : Int32} {off : Int} (hd : decode (mB i) pc = .ok (.ifCond .gt off, 3)) {tgt : Nat} (ht : (pc : Int) + off = (tgt : Int)) (kt : (0 < x) → WW Ω md i p e s m args below meth cf Q ad0 M0 tgt ls r M c n) (kf : ¬ (0 < x) → WW Ω md i p e s m args below meth cf Q ad0 M0 (pc + 3) ls r M c n) : WW Ω md i p e s m args below meth cf Q ad0 M0 pc ls (vI x :: r) M c n := by
  intro H locs ad lsR hR hL hLo hs hS hc hn2 hE
  exact lv_if_gt hcx.1 hcx.2.1 hd ht (fun h => kt h H locs ad lsR hR hL hLo hs.2 hS hc hn2 hE) (fun h => kf h H locs ad lsR hR hL hLo hs.2 hS hc hn2 hE)
theorem zi_icmp_gt (hcx : Cx Ω i p s m meth cf) {x y : Int32} {off : Int} (hd : decode (mB i) pc = .ok (.if_icmp .gt off, 3)) {tgt : Nat} (ht : (pc : Int) + off = (tgt : Int)) (kt : (y < x) → WW Ω md i p e s m args below meth cf Q ad0 M0 tgt ls r M c n) (kf : ¬ (y < x) → WW Ω md i p e s m args below meth cf Q ad0 M0 (pc + 3) ls r M c n) : WW Ω md i p e s m args below meth cf Q ad0 M0 pc ls (vI y :: vI x :: r) M c n := by
  intro H locs ad lsR hR hL hLo hs hS hc hn2 hE
  exact lv_icmp_gt hcx.1 hcx.2.1 hd ht (fun h => kt h H locs ad lsR hR hL hLo hs.2.2 hS hc hn2 hE) (fun h => kf h H locs ad lsR hR hL hLo hs.2.2 hS hc hn2 hE)
theorem zi_if_le (hcx : Cx Ω i p s m meth cf) {x : Int32} {off : Int} (hd : decode (mB i) pc = .ok (.ifCond .le off, 3)) {tgt : Nat} (ht : (pc : Int) + off = (tgt : Int)) (kt : (x ≤ 0) → WW Ω md i p e s m args below meth cf Q ad0 M0 tgt ls r M c n) (kf : ¬ (x ≤ 0) → WW Ω md i p e s m args below meth cf Q ad0 M0 (pc + 3) ls r M c n) : WW Ω md i p e s m args below meth cf Q ad0 M0 pc ls (vI x :: r) M c n := by
  intro H locs ad lsR hR hL hLo hs hS hc hn2 hE
  exact lv_if_le hcx.1 hcx.2.1 hd ht (fun h => kt h H locs ad lsR hR hL hLo hs.2 hS hc hn2 hE) (fun h => kf h H locs ad lsR hR hL hLo hs.2 hS hc hn2 hE)
theorem zi_icmp_le (hcx : Cx Ω i p s m meth cf) {x y : Int32} {off : Int} (hd : decode (mB i) pc = .ok (.if_icmp .le off, 3)) {tgt : Nat} (ht : (pc : Int) + off = (tgt : Int)) (kt : (x ≤ y) → WW Ω md i p e s m args below meth cf Q ad0 M0 tgt ls r M c n) (kf : ¬ (x ≤ y) → WW Ω md i p e s m args below meth cf Q ad0 M0 (pc + 3) ls r M c n) : WW Ω md i p e s m args below meth cf Q ad0 M0 pc ls (vI y :: vI x :: r) M c n := by
  intro H locs ad lsR hR hL hLo hs hS hc hn2 hE
  exact lv_icmp_le hcx.1 hcx.2.1 hd ht (fun h => kt h H locs ad lsR hR hL hLo hs.2.2 hS hc hn2 hE) (fun h => kf h H locs ad lsR hR hL hLo hs.2.2 hS hc hn2 hE)
theorem zi_goto (hcx : Cx Ω i p s m meth cf) {off : Int} (hd : decode (mB i) pc = .ok (.goto off, 3)) {tgt : Nat} (ht : (pc : Int) + off = (tgt : Int)) (hn : WW Ω md i p e s m args below meth cf Q ad0 M0 tgt ls r M c n) : WW Ω md i p e s m args below meth cf Q ad0 M0 pc ls r M c n := by
  intro H locs ad lsR hR hL hLo hs hS hc hn2 hE
  exact lv_goto hcx.1 hcx.2.1 hd ht (hn H locs ad lsR hR hL hLo hs hS hc hn2 hE)
theorem zi_ifnull_N (hcx : Cx Ω i p s m meth cf) {off : Int} (hd : decode (mB i) pc = .ok (.ifnull off, 3)) {tgt : Nat} (ht : (pc : Int) + off = (tgt : Int)) (hn : WW Ω md i p e s m args below meth cf Q ad0 M0 tgt ls r M c n) : WW Ω md i p e s m args below meth cf Q ad0 M0 pc ls (vR none :: r) M c n := by
  intro H locs ad lsR hR hL hLo hs hS hc hn2 hE
  exact lv_ifnullN hcx.1 hcx.2.1 hd ht (hn H locs ad lsR hR hL hLo hs.2 hS hc hn2 hE)
theorem zi_ifnull_S (hcx : Cx Ω i p s m meth cf) {off : Int} (hd : decode (mB i) pc = .ok (.ifnull off, 3)) {tgt : Nat} (ht : (pc : Int) + off = (tgt : Int)) {q : Nat × Nat} (hn : WW Ω md i p e s m args below meth cf Q ad0 M0 (pc + 3) ls r M c n) : WW Ω md i p e s m args below meth cf Q ad0 M0 pc ls (vR (some q) :: r) M c n := by
  intro H locs ad lsR hR hL hLo hs hS hc hn2 hE
  exact lv_ifnull hcx.1 hcx.2.1 hd (hn H locs ad lsR hR hL hLo hs.2 hS hc hn2 hE)
theorem zi_ifnonnull_N (hcx : Cx Ω i p s m meth cf) {off : Int} (hd : decode (mB i) pc = .ok (.ifnonnull off, 3)) {tgt : Nat} (ht : (pc : Int) + off = (tgt : Int)) (hn : WW Ω md i p e s m args below meth cf Q ad0 M0 (pc + 3) ls r M c n) : WW Ω md i p e s m args below meth cf Q ad0 M0 pc ls (vR none :: r) M c n := by
  intro H locs ad lsR hR hL hLo hs hS hc hn2 hE
  exact lv_ifnonnullN hcx.1 hcx.2.1 hd (hn H locs ad lsR hR hL hLo hs.2 hS hc hn2 hE)
theorem zi_ifnonnull_S (hcx : Cx Ω i p s m meth cf) {off : Int} (hd : decode (mB i) pc = .ok (.ifnonnull off, 3)) {tgt : Nat} (ht : (pc : Int) + off = (tgt : Int)) {q : Nat × Nat} (hn : WW Ω md i p e s m args below meth cf Q ad0 M0 tgt ls r M c n) : WW Ω md i p e s m args below meth cf Q ad0 M0 pc ls (vR (some q) :: r) M c n := by
  intro H locs ad lsR hR hL hLo hs hS hc hn2 hE
  exact lv_ifnonnull hcx.1 hcx.2.1 hd ht (hn H locs ad lsR hR hL hLo hs.2 hS hc hn2 hE)
theorem zi_swOut (hcx : Cx Ω i p s m meth cf) {dflt lo hi : Int} {offs : Array Int} {len : Nat} {x : Int32} {tgt : Nat} (hd : decode (mB i) pc = .ok (.tableswitch dflt lo hi offs, len)) (h : x.toInt < lo ∨ hi < x.toInt) (ht : (pc : Int) + dflt = (tgt : Int)) (hn : WW Ω md i p e s m args below meth cf Q ad0 M0 tgt ls r M c n) : WW Ω md i p e s m args below meth cf Q ad0 M0 pc ls (vI x :: r) M c n := by
  intro H locs ad lsR hR hL hLo hs hS hc hn2 hE
  exact lv_tableOut hcx.1 hcx.2.1 hd h ht (hn H locs ad lsR hR hL hLo hs.2 hS hc hn2 hE)
theorem zi_swIn (hcx : Cx Ω i p s m meth cf) {dflt lo hi : Int} {offs : Array Int} {len : Nat} {x : Int32} {off : Int} {tgt : Nat} (hd : decode (mB i) pc = .ok (.tableswitch dflt lo hi offs, len)) (h1 : ¬ x.toInt < lo) (h2 : ¬ hi < x.toInt) (ho : offs[(x.toInt - lo).toNat]? = some off) (ht : (pc : Int) + off = (tgt : Int)) (hn : WW Ω md i p e s m args below meth cf Q ad0 M0 tgt ls r M c n) : WW Ω md i p e s m args below meth cf Q ad0 M0 pc ls (vI x :: r) M c n := by
  intro H locs ad lsR hR hL hLo hs hS hc hn2 hE
  exact lv_tableIn hcx.1 hcx.2.1 hd h1 h2 ho ht (hn H locs ad lsR hR hL hLo hs.2 hS hc hn2 hE)
end INS
