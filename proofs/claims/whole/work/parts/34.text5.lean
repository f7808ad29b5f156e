/-! THE TEXT'S OWN METHODS, III: charAt -/
theorem call_hand2 {Ω : Om} {md : Bool} {j : Nat} {as : List Vl} {M : Mem} {K : Ka} {r : Int32} {ty : FieldType} (hj : j ∈ JL) (hz : aZ as ≤ mL j) (hT : mT j = some ty) (hn : narrow ty (.int r) = .int r) (hK : K (some (vI r)) M)
    (h : ∀ (p : Program) (e : Env) (s : State) (m : MethodId) (args : Array Value) (below : List Frame) (meth : Method) (cf : Code) (Q : State → Prop) (ad0 : Nat → Nat → Nat), Cx Ω j p s m meth cf → (∀ (H : Heap) (locs : List Loc) (ad : Nat → Nat → Nat) (ls : Array Slot) (pc c n : Nat), RelW Ω md ad M H → Ext ad0 M ad M → va_S (oA Ω) s.heap H locs → c ≤ mCe j → n ≤ mSl j → decode (mB j) pc = .ok (.ireturn, 1) → W p (oL Ω) e (rmM j) s m args below meth cf H locs c n Q (F0 m pc ls [.int r])) → WW Ω md j p e s m args below meth cf Q ad0 M 0 (eL as (mL j)) [] M 0 0) : CallS Ω md j as M K := by
  intro ad
  obtain ⟨-, -, -, hpl, -, -, hcls⟩ := mOK_facts hj
  refine Met.ofW (cc := mB j) (maxL := mL j) (ret := mT j) hpl rfl ?_
  intro p e s m args below meth cf s₁ B hml hv
  obtain ⟨rfl, hA, hR, hso, hlow, hbs⟩ := hv
  have hown : s.vm.findClass (ownR (mOw j)) = some m.cls := by rw [← hcls]; exact findClass_of_methodNamed B.named
  have hcx : Cx Ω j p s m meth cf := ⟨B.exec, B.bytes, hml, hown, hA, (name_of_methodNamed B.named B.method).1, hlow, hbs⟩
  have hl := lv_entry (as.map (val ad)) (n := mL j) (by rw [lg_len]; exact hz)
  have hr := B.returns
  have hlocks := B.notSynchronized
  rw [lg_entry_eq]
  have hL : LRel ad (eL as (mL j)) ((lg_sl (as.map (val ad)) ++ List.replicate (mL j - (lg_sl (as.map (val ad))).length) Slot.unset).toArray) (mL j) := ⟨hl.1, hl.2.1, fun k v hk => hl.2.2 _ (by have := eL_args ad as (mL j) 0 k v hk; rwa [Nat.add_zero] at this)⟩
  refine h p e s m _ below meth cf (MQ below (QcM Ω md ad M K) _ s (mCe j) (mSl j) (oA Ω)) ad hcx (fun H locs ad' ls pc c n hR' hE hS hc hn' hd => ?_) s.heap [] ad _ hR hL (fun k v hk => hso.mem v (eL_mem as _ k v hk)) trivial va_S.rf (Nat.zero_le _) (Nat.zero_le _) ⟨fun _ => Nat.le_refl _, fun _ _ => rfl⟩
  refine W.widen hc hn' ?_
  exact W.zret B.exec B.bytes (by rw [hr, hT]) hn (fun t ht hW => ⟨⟨some (vI r), M, ad', rfl, hK, by rw [ht]; exact hR', fun v hv => by cases hv; exact VOk_I _ _, hE⟩, hS.F ht⟩) hS.2.2 hd hlocks
theorem c_S_charAt (Ω : Om) (md : Bool) (M : Mem) (k : Nat) (hk : k < 110) (K : Ka) (h : K (some (vI (sCh k))) M) : CallS Ω md 252 [vR (some (kSTR, 0)), vI (nI k)] M K := by
  refine call_hand2 (r := sCh k) (ty := .char) (hJL rfl) (Nat.le_of_ble_eq_true rfl) rfl (pk_nc _) h (fun p e s m args below meth cf Q ad0 hcx hret => ?_)
  refine zi_aload_n (pc := 0) (k := 0) hcx (by decide +kernel) rfl (x := some (kSTR, 0)) rfl ?_
  show WW Ω md 252 p e s m args below meth cf Q ad0 M 1 (eL [vR (some (kSTR, 0)), vI (nI k)] (mL 252)) ([vR (some (kSTR, 0))].reverse ++ []) M 0 0
  refine zi_callT (x := 492) (j := 254) (b := 8) (K := fun v M' => v = some (vI 1) ∧ M' = M) hcx (by decide +kernel) (hJL rfl) (List.mem_of_elem_eq_true tJ3) (c_S_isL Ω md M _ ⟨rfl, rfl⟩) (by decide) (by decide) (by decide) (by decide) (by decide) rfl rfl (List.mem_of_elem_eq_true (by decide +kernel)) rfl rfl rfl (fun v M' hv => ?_)
  obtain ⟨rfl, rfl⟩ := hv
  intro H locs ad ls hR hL hLo hs hS hc hn hE
  have l1 : ls[1]? = some (.val (.int (nI k))) := hL.2.2 1 _ rfl
  refine lv_if_eq (pc := 4) (tgt := 16) (off := 12) (x := 1) hcx.1 hcx.2.1 (by decide +kernel) rfl (fun h => absurd h (by decide)) (fun _ => ?_)
  refine lv_aload_n (pc := 7) (k := 0) hcx.1 hcx.2.1 (by decide +kernel) rfl (hL.2.2 0 _ rfl) ?_
  show W p (oL Ω) e (rmM 252) s m args below meth cf H locs _ _ Q (F0 m 8 ls [.ref (ad kSTR 0)])
  rw [t_st hR]
  refine vk_getf (A := oA Ω) (index := 9) hcx.1 hcx.2.1 ((t_S hcx).1 0 (by decide)).2.2.1 hS hcx.2.2.2.1 (hcx.hts args (Cond.fieldLink "java/lang/String" 9 "java/lang/String" "value" "[B") (tW_in (List.mem_of_elem_eq_true (by decide +kernel)))) (fun x h => h) (by decide +kernel) ?_
  refine lv_iload_n (pc := 11) (k := 1) hcx.1 hcx.2.1 (by decide +kernel) rfl l1 ?_
  refine raw_callS hcx (x := 495) (j := 256) (b := 2) (as := [.ref (oSv Ω), .int (nI k)]) (rest := []) (by decide +kernel) (hJL rfl) (List.mem_of_elem_eq_true tJ4) (by decide) (s_charAt Ω k hk) (by decide) (by decide) (by decide) (by decide) (by decide) rfl rfl hL.1 hS (fun locs1 hS1 => ?_)
  exact hret H locs1 ad ls 15 _ _ hR hE hS1 (by decide) (by decide) (by decide +kernel)
