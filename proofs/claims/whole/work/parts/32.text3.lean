/-! THE TEXT'S OWN METHODS -/
def tW : List Cond := [Cond.fieldLink "java/lang/String" 38 "java/lang/String" "COMPACT_STRINGS" "Z", Cond.fieldLink "java/lang/String" 15 "java/lang/String" "coder" "B", Cond.fieldLink "java/lang/String" 9 "java/lang/String" "value" "[B", Cond.fieldLink "java/lang/String" 1053 "jdk/internal/util/Preconditions" "SIOOBE_FORMATTER" "Ljava/util/function/BiFunction;"]
theorem tW_ok : tW.all (fun w => decide (w ∈ tables_1) && goodWord w) = true := by decide +kernel
theorem tW_in {w : Cond} (h : w ∈ tW) : w ∈ gw := by
  have h1 := List.all_eq_true.mp tW_ok w h
  simp only [Bool.and_eq_true, decide_eq_true_eq] at h1
  exact zz_tblw h1.1 h1.2
theorem tJ1 : (JL.elem 251 && JL.elem 252 && JL.elem 253 && JL.elem 254 && JL.elem 255 && JL.elem 256) = true := by decide +kernel
theorem tJ2 : ML.elem (mOw 251, 335, 253, 8) = true := by decide +kernel
theorem tJ3 : ML.elem (mOw 252, 492, 254, 8) = true := by decide +kernel
theorem tJ4 : ML.elem (mOw 252, 495, 256, 2) = true := by decide +kernel
theorem tJ5 : ML.elem (17, 9, 255, 8) = true := by decide +kernel
/-- a method that answers a number and leaves all as it is, shown by hand -/
theorem call_hand {Ω : Om} {md : Bool} {j : Nat} {as : List Vl} {M : Mem} {K : Ka} {r : Int32} {ty : FieldType} (hj : j ∈ JL) (hz : aZ as ≤ mL j) (hT : mT j = some ty) (hn : narrow ty (.int r) = .int r) (hK : K (some (vI r)) M)
    (h : ∀ (p : Program) (e : Env) (s : State) (m : MethodId) (args : Array Value) (below : List Frame) (meth : Method) (cf : Code) (Q : State → Prop) (ad : Nat → Nat → Nat) (ls : Array Slot), Cx Ω j p s m meth cf → RelW Ω md ad M s.heap → LRel ad (eL as (mL j)) ls (mL j) → (∀ (pc : Nat), decode (mB j) pc = .ok (.ireturn, 1) → W p (oL Ω) e (rmM j) s m args below meth cf s.heap [] 0 0 Q (F0 m pc ls [.int r])) → W p (oL Ω) e (rmM j) s m args below meth cf s.heap [] 0 0 Q (F0 m 0 ls [])) : CallS Ω md j as M K := by
  intro ad
  obtain ⟨-, -, -, hpl, -, -, hcls⟩ := mOK_facts hj
  refine Met.ofW (cc := mB j) (maxL := mL j) (ret := mT j) hpl rfl ?_
  intro p e s m args below meth cf s₁ B hml hv
  obtain ⟨rfl, hA, hR, hso, hlow, hbs⟩ := hv
  have hown : s.vm.findClass (ownR (mOw j)) = some m.cls := by rw [← hcls]; exact findClass_of_methodNamed B.named
  have hcx : Cx Ω j p s m meth cf := ⟨B.exec, B.bytes, hml, hown, hA, (name_of_methodNamed B.named B.method).1, hlow, hbs⟩
  have hl := lv_entry (as.map (val ad)) (n := mL j) (by rw [lg_len]; exact hz)
  have hr := B.returns
  have hlocks := B.notSynchronized
  rw [lg_entry_eq]
  have hL : LRel ad (eL as (mL j)) ((lg_sl (as.map (val ad)) ++ List.replicate (mL j - (lg_sl (as.map (val ad))).length) Slot.unset).toArray) (mL j) := ⟨hl.1, hl.2.1, fun k v hk => hl.2.2 _ (by have := eL_args ad as (mL j) 0 k v hk; rwa [Nat.add_zero] at this)⟩
  refine h p e s m _ below meth cf _ ad _ hcx hR hL (fun pc hd => ?_)
  refine W.widen (Nat.zero_le (mCe j)) (Nat.zero_le (mSl j)) ?_
  exact W.zret B.exec B.bytes (by rw [hr, hT]) hn (fun t ht hW => ⟨⟨some (vI r), M, ad, rfl, hK, by rw [ht]; exact hR, fun v hv => by cases hv; exact VOk_I _ _, ⟨fun _ => Nat.le_refl _, fun _ _ => rfl⟩⟩, by rw [va_F, ht]; exact ⟨Nat.le_refl _, fun _ _ _ => rfl⟩⟩) (fun q hq => by cases hq) hd hlocks
theorem t_st {Ω : Om} {md : Bool} {ad : Nat → Nat → Nat} {M : Mem} {H : Heap} (h : RelW Ω md ad M H) : ad kSTR 0 = oSt Ω := h.2.2.2.2.2.2.2.2.2
theorem t_S {Ω : Om} {i : Nat} {p : Program} {s : State} {m : MethodId} {meth : Method} {cf : Code} (h : Cx Ω i p s m meth cf) : vk_S 1 [110] [strB] (fun _ => oSt Ω) (fun _ => oSv Ω) (oA Ω) s s.heap := h.2.2.2.2.1.2.2.2.2.2.2.2.1.kept (fun a _ h2 => h.low h2)
theorem t_Z {Ω : Om} {i : Nat} {p : Program} {s : State} {m : MethodId} {meth : Method} {cf : Code} (h : Cx Ω i p s m meth cf) : va_Z "java/lang/String" "COMPACT_STRINGS" "Z" (.int 1) (oA Ω) s s.heap := h.2.2.2.2.1.2.2.2.2.2.2.2.2.1.kept (fun a _ h2 => h.low h2)
theorem c_S_coder (Ω : Om) (md : Bool) (M : Mem) (K : Ka) (h : K (some (vI 0)) M) : CallS Ω md 253 [vR (some (kSTR, 0))] M K := by
  refine call_hand (r := 0) (ty := .byte) (hJL rfl) (Nat.le_of_ble_eq_true rfl) rfl rfl h (fun p e s m args below meth cf Q ad ls hcx hR hL hret => ?_)
  have hS : va_S (oA Ω) s.heap s.heap [] := va_S.rf
  refine va_gets (A := oA Ω) (pc := 0) (index := 38) (v := .int 1) hcx.1 hcx.2.1 (t_Z hcx) hS hcx.2.2.2.1 (hcx.hts args (Cond.fieldLink "java/lang/String" 38 "java/lang/String" "COMPACT_STRINGS" "Z") (tW_in (List.mem_of_elem_eq_true (by decide +kernel)))) (fun x h => h) (by decide +kernel) ?_
  refine lv_if_eq (pc := 3) (tgt := 13) (off := 10) (x := 1) hcx.1 hcx.2.1 (by decide +kernel) rfl (fun h => absurd h (by decide)) (fun _ => ?_)
  refine lv_aload_n (pc := 6) (k := 0) hcx.1 hcx.2.1 (by decide +kernel) rfl (hL.2.2 0 _ rfl) ?_
  show W p (oL Ω) e (rmM 253) s m args below meth cf s.heap [] 0 0 Q (F0 m 7 ls [.ref (ad kSTR 0)])
  rw [t_st hR]
  refine vk_getf (A := oA Ω) (index := 15) hcx.1 hcx.2.1 ((t_S hcx).1 0 (by decide)).2.1 hS hcx.2.2.2.1 (hcx.hts args (Cond.fieldLink "java/lang/String" 15 "java/lang/String" "coder" "B") (tW_in (List.mem_of_elem_eq_true (by decide +kernel)))) (fun x h => h) (by decide +kernel) ?_
  refine lv_goto (pc := 10) (tgt := 14) (off := 4) hcx.1 hcx.2.1 (by decide +kernel) rfl ?_
  exact hret 14 (by decide +kernel)
theorem c_S_isL (Ω : Om) (md : Bool) (M : Mem) (K : Ka) (h : K (some (vI 1)) M) : CallS Ω md 254 [vR (some (kSTR, 0))] M K := by
  refine call_hand (r := 1) (ty := .boolean) (hJL rfl) (Nat.le_of_ble_eq_true rfl) rfl rfl h (fun p e s m args below meth cf Q ad ls hcx hR hL hret => ?_)
  have hS : va_S (oA Ω) s.heap s.heap [] := va_S.rf
  refine va_gets (A := oA Ω) (pc := 0) (index := 38) (v := .int 1) hcx.1 hcx.2.1 (t_Z hcx) hS hcx.2.2.2.1 (hcx.hts args (Cond.fieldLink "java/lang/String" 38 "java/lang/String" "COMPACT_STRINGS" "Z") (tW_in (List.mem_of_elem_eq_true (by decide +kernel)))) (fun x h => h) (by decide +kernel) ?_
  refine lv_if_eq (pc := 3) (tgt := 17) (off := 14) (x := 1) hcx.1 hcx.2.1 (by decide +kernel) rfl (fun h => absurd h (by decide)) (fun _ => ?_)
  refine lv_aload_n (pc := 6) (k := 0) hcx.1 hcx.2.1 (by decide +kernel) rfl (hL.2.2 0 _ rfl) ?_
  show W p (oL Ω) e (rmM 254) s m args below meth cf s.heap [] 0 0 Q (F0 m 7 ls [.ref (ad kSTR 0)])
  rw [t_st hR]
  refine vk_getf (A := oA Ω) (index := 15) hcx.1 hcx.2.1 ((t_S hcx).1 0 (by decide)).2.1 hS hcx.2.2.2.1 (hcx.hts args (Cond.fieldLink "java/lang/String" 15 "java/lang/String" "coder" "B") (tW_in (List.mem_of_elem_eq_true (by decide +kernel)))) (fun x h => h) (by decide +kernel) ?_
  refine lv_if_ne (pc := 10) (tgt := 17) (off := 7) (x := 0) hcx.1 hcx.2.1 (by decide +kernel) rfl (fun h => absurd rfl h) (fun _ => ?_)
  refine lv_iconst (pc := 13) (n := 1) (v := 1) hcx.1 hcx.2.1 (by decide +kernel) rfl ?_
  refine lv_goto (pc := 14) (tgt := 18) (off := 4) hcx.1 hcx.2.1 (by decide +kernel) rfl ?_
  exact hret 18 (by decide +kernel)
theorem c_S_length (Ω : Om) (md : Bool) (M : Mem) (K : Ka) (h : K (some (vI 110)) M) : CallS Ω md 251 [vR (some (kSTR, 0))] M K := by
  refine call_go (hJL rfl) (Nat.le_of_ble_eq_true rfl) ?_
  intro p e s m args below meth cf Q ad0 M0 hcx hret H locs ad ls hR hL hLo hs hS hc hn hE
  refine lv_aload_n (pc := 0) (k := 0) hcx.1 hcx.2.1 (by decide +kernel) rfl (hL.2.2 0 _ rfl) ?_
  show W p (oL Ω) e (rmM 251) s m args below meth cf H locs 0 0 Q (F0 m 1 ls [.ref (ad kSTR 0)])
  rw [t_st hR]
  refine vk_getf (A := oA Ω) (index := 9) hcx.1 hcx.2.1 ((t_S hcx).1 0 (by decide)).2.2.1 hS hcx.2.2.2.1 (hcx.hts args (Cond.fieldLink "java/lang/String" 9 "java/lang/String" "value" "[B") (tW_in (List.mem_of_elem_eq_true (by decide +kernel)))) (fun x h => h) (by decide +kernel) ?_
  refine va_tlen (A := oA Ω) (pc := 4) (v := 110) hcx.1 hcx.2.1 ((t_S hcx).1 0 (by decide)).2.2.2 hS rfl (by decide +kernel) ?_
  refine lv_aload_n (pc := 5) (k := 0) hcx.1 hcx.2.1 (by decide +kernel) rfl (hL.2.2 0 _ rfl) ?_
  have step : WW Ω md 251 p e s m args below meth cf Q ad0 M0 6 (eL [vR (some (kSTR, 0))] (mL 251)) ([vR (some (kSTR, 0))].reverse ++ [vI 110]) M 0 0 := by
    refine zi_callT (x := 335) (j := 253) (b := 8) (K := fun v M' => v = some (vI 0) ∧ M' = M) hcx (by decide +kernel) (hJL rfl) (List.mem_of_elem_eq_true tJ2) (c_S_coder Ω md M _ ⟨rfl, rfl⟩) (by decide) (by decide) (by decide) (by decide) (by decide) rfl rfl (List.mem_of_elem_eq_true (by decide +kernel)) rfl rfl rfl (fun v M' hv => ?_)
    obtain ⟨rfl, rfl⟩ := hv
    refine zi_ishr (pc := 9) hcx (by decide +kernel) ?_
    exact zi_ret (v := some (vI 110)) hret (by decide +kernel : decode (mB 251) 10 = .ok (.ireturn, 1)) h ⟨rfl, Or.inl rfl⟩ rfl
  exact step H locs ad ls hR hL hLo ⟨hLo 0 _ rfl, VOk_I _ _, trivial⟩ hS hc hn hE
