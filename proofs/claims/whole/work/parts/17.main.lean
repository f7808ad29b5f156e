/-! THE SMALL MACHINE IS THE MACHINE, III -/
section MAIN
variable {Ω : Om} {md : Bool} {i : Nat} {p : Program} {e : Env} {s : State} {m : MethodId} {args : Array Value} {below : List Frame} {meth : Method} {cf : Code} {Q : State → Prop} {ad0 : Nat → Nat → Nat} {M0 : Mem} {pc : Nat} {M : Mem} {c n : Nat}
theorem zz_elem {α : Type} [BEq α] [LawfulBEq α] {x : α} {l : List α} (h : l.elem x = true) : x ∈ l := List.mem_of_elem_eq_true h
theorem zz_pm {pc k nn : Nat} {ins : Instr} (hn : nn = pc + k) {i : Nat} (hd : decode (mB i) pc = .ok (ins, nn - pc)) : decode (mB i) pc = .ok (ins, k) := by
  subst hn
  rwa [Nat.add_sub_cancel_left] at hd
theorem callOK_inv {i a d : Nat} (h : callOK i a d = true) : a ∈ JL ∧ d = mN a ∧ mFr a + 1 ≤ mFr i ∧ 8 + (mL a + 11) + mLo a ≤ mLo i := by
  unfold callOK at h
  simp only [Bool.and_eq_true, decide_eq_true_eq] at h
  exact ⟨List.mem_of_elem_eq_true h.1, h.2.1, h.2.2.1, h.2.2.2⟩
/-- a call's end, in the small machine's words -/
theorem cl_inv {i j c n nn : Nat} {md : Bool} {Cl : Ca} {as r : List Vl} {M : Mem} {nx : Co} {ls : List (Option Vl)} (h : ∃ K0, Cl j as M K0 ∧ (cond md (cond (Nat.beq (mCe j) 0 && Nat.beq (mSl j) 0) True False) (c + mCe j ≤ mCe i ∧ n + mSl j ≤ mSl i)) ∧
      ∀ v M', K0 v M' → nx nn ls (v.toList ++ r) M' (cond md c (c + mCe j)) (cond md n (n + mSl j))) (hc : c ≤ mCe i) (hn : n ≤ mSl i) :
      ∃ K0, Cl j as M K0 ∧ c + mCe j ≤ mCe i ∧ n + mSl j ≤ mSl i ∧ ∀ v M', K0 v M' → nx nn ls (v.toList ++ r) M' (c + mCe j) (n + mSl j) := by
  obtain ⟨K0, h1, h2, h3⟩ := h
  cases md with
  | false => exact ⟨K0, h1, h2.1, h2.2, h3⟩
  | true =>
    have h2 := (cond_inv h2).1
    simp only [Bool.and_eq_true] at h2
    have e1 := Nat.eq_of_beq_eq_true h2.1
    have e2 := Nat.eq_of_beq_eq_true h2.2
    refine ⟨K0, h1, by omega, by omega, fun v M' hv => ?_⟩
    rw [e1, e2]
    exact h3 v M' hv
theorem WW.bd {pc : Nat} {ls : List (Option Vl)} {st : List Vl} (h : c ≤ mCe i → n ≤ mSl i → WW Ω md i p e s m args below meth cf Q ad0 M0 pc ls st M c n) : WW Ω md i p e s m args below meth cf Q ad0 M0 pc ls st M c n := fun H locs ad lsR hR hL hLo hs hS hc hn hE => h hc hn H locs ad lsR hR hL hLo hs hS hc hn hE
set_option maxHeartbeats 4000000 in
theorem inv_sound {ins : Instr} {nn a b d t : Nat} {vi : Int32} {vj : Int64} {sl : List (Int32 × Nat)} {K : Ka} (hcx : Cx Ω i p s m meth cf) (hret : ReH Ω md i p e s m args below meth cf Q ad0 M0 K) (hd : decode (mB i) pc = .ok (ins, nn - pc)) {nx : Co} (hnx : ∀ pc ls st M c n, nx pc ls st M c n → WW Ω md i p e s m args below meth cf Q ad0 M0 pc ls st M c n) {ls : List (Option Vl)} {st : List Vl} (hok : okI i pc ins nn a b d t vi vj sl = true) (hins : (∃ x, ins = .invokevirtual x) ∨ (∃ x, ins = .invokespecial x) ∨ ∃ x, ins = .invokestatic x) (h : inv md (oN Ω) i (CallS Ω md) nx nn a b d t ls st M c n) : WW Ω md i p e s m args below meth cf Q ad0 M0 pc ls st M c n := by
  refine WW.bd fun hc0 hn0 => ?_
  rcases hins with ⟨x, rfl⟩ | ⟨x, rfl⟩ | ⟨x, rfl⟩
  · simp only [okI, Bool.and_eq_true, decide_eq_true_eq, Bool.not_eq_true'] at hok
    obtain ⟨hnn, hML, hco, hSL, hst, hb⟩ := hok
    have hd3 := zz_pm hnn hd
    obtain ⟨hJ, hdN, hfr, hlo⟩ := callOK_inv hco
    have hML := List.mem_of_elem_eq_true hML
    have hSL := List.mem_of_elem_eq_true hSL
    subst hnn
    split at hb
    next =>
      have hb := of_decide_eq_true hb
      obtain ⟨as, r, rfl, hlen, h_1⟩ := popN_inv (f := fun as r => rcv (oN Ω) 0 t as (cond (Nat.ble (cS r) 8) _ False)) h
      simp only [List.append_nil] at h_1
      obtain ⟨k0, j0, as0, has, h_2⟩ := pO_inv h_1
      obtain ⟨hk0, h_3⟩ := oK_inv h_2
      obtain ⟨h8, h_4⟩ := cond_inv h_3
      obtain ⟨K0, hK, hc1, hn1, hn⟩ := cl_inv h_4 hc0 hn0
      exact zi_callV hcx hd3 hJ hML hK (Nat.le_of_ble_eq_true h8) hfr hlo hc1 hn1 (hlen.trans hdN) rfl hSL hb has hk0 hst (fun v M' hv => hnx _ _ _ _ _ _ (hn v M' hv))
    next =>
      have hb := of_decide_eq_true hb
      obtain ⟨as, r, rfl, hlen, h_5⟩ := popN_inv (f := fun as r => rcv (oN Ω) 1 t as (cond (Nat.ble (cS r) 8) _ False)) h
      simp only [List.append_nil] at h_5
      obtain ⟨k0, j0, as0, has, h_6⟩ := pO_inv h_5
      obtain ⟨hk0, h_7⟩ := oK_inv h_6
      obtain ⟨h8, h_8⟩ := cond_inv h_7
      obtain ⟨K0, hK, hc1, hn1, hn⟩ := cl_inv h_8 hc0 hn0
      exact zi_callVN hcx hd3 hJ hML hK (Nat.le_of_ble_eq_true h8) hfr hlo hc1 hn1 (hlen.trans hdN) rfl hSL hb has hk0 hst (fun v M' hv => hnx _ _ _ _ _ _ (hn v M' hv))
    next =>
      have hb := of_decide_eq_true hb
      obtain ⟨as, r, rfl, hlen, h_9⟩ := popN_inv (f := fun as r => rcv (oN Ω) 8 t as (cond (Nat.ble (cS r) 8) _ False)) h
      simp only [List.append_nil] at h_9
      obtain ⟨k0, j0, as0, has, h_10⟩ := pO_inv h_9
      obtain ⟨hk0, h_11⟩ := cond_inv h_10
      simp only [Bool.and_eq_true] at hk0
      have e1 := Nat.eq_of_beq_eq_true hk0.1
      have e2 := Nat.eq_of_beq_eq_true hk0.2
      subst e1
      subst e2
      obtain ⟨h8, h_12⟩ := cond_inv h_11
      obtain ⟨K0, hK, hc1, hn1, hn⟩ := cl_inv h_12 hc0 hn0
      exact zi_callT hcx hd3 hJ hML hK (Nat.le_of_ble_eq_true h8) hfr hlo hc1 hn1 (hlen.trans hdN) rfl hSL hb has hst (fun v M' hv => hnx _ _ _ _ _ _ (hn v M' hv))
    next => cases hb
  · simp only [okI, Bool.and_eq_true, decide_eq_true_eq] at hok
    obtain ⟨hnn, hb⟩ := hok
    have hd3 := zz_pm hnn hd
    subst hnn
    split at hb
    next =>
      simp only [Bool.and_eq_true, decide_eq_true_eq, Bool.not_eq_true'] at hb
      obtain ⟨hML, hco, hst, hmT, hnm⟩ := hb
      obtain ⟨hJ, hdN, hfr, hlo⟩ := callOK_inv hco
      have hML := List.mem_of_elem_eq_true hML
      obtain ⟨as, r, rfl, hlen, h_13⟩ := popN_inv (f := fun as r => rcv (oN Ω) 4 t as (cond (Nat.ble (cS r) 8) _ False)) h
      simp only [List.append_nil] at h_13
      obtain ⟨k0, j0, as0, has, h_14⟩ := pO_inv h_13
      obtain ⟨h8, h_15⟩ := cond_inv h_14
      obtain ⟨K0, hK, hc1, hn1, hn⟩ := cl_inv h_15 hc0 hn0
      exact zi_callI hcx hd3 hJ hML hK (Nat.le_of_ble_eq_true h8) hfr hlo hc1 hn1 (hlen.trans hdN) rfl hnm hmT has hst (fun v M' hv => hnx _ _ _ _ _ _ (hn v M' hv))
    next =>
      simp only [Bool.and_eq_true, decide_eq_true_eq, Bool.not_eq_true'] at hb
      obtain ⟨hML, hco, hst, hmT, hnm⟩ := hb
      obtain ⟨hJ, hdN, hfr, hlo⟩ := callOK_inv hco
      have hML := List.mem_of_elem_eq_true hML
      obtain ⟨as, r, rfl, hlen, h_16⟩ := popN_inv (f := fun as r => rcv (oN Ω) 5 t as (cond (Nat.ble (cS r) 8) _ False)) h
      simp only [List.append_nil] at h_16
      obtain ⟨k0, j0, as0, has, h_17⟩ := pO_inv h_16
      obtain ⟨h8, h_18⟩ := cond_inv h_17
      obtain ⟨K0, hK, hc1, hn1, hn⟩ := cl_inv h_18 hc0 hn0
      exact zi_callIN hcx hd3 hJ hML hK (Nat.le_of_ble_eq_true h8) hfr hlo hc1 hn1 (hlen.trans hdN) rfl hnm hmT has hst (fun v M' hv => hnx _ _ _ _ _ _ (hn v M' hv))
    next =>
      simp only [Bool.and_eq_true, decide_eq_true_eq] at hb
      obtain ⟨k, j, r, rfl, h_19⟩ := pO_inv h
      obtain ⟨h8, h_20⟩ := cond_inv h_19
      exact zi_objInit hcx hd3 (List.mem_of_elem_eq_true hb.1) hb.2.1 hb.2.2 (Nat.le_of_ble_eq_true h8) (hnx _ _ _ _ _ _ h_20)
    next => cases hb
  · simp only [okI, Bool.and_eq_true, decide_eq_true_eq] at hok
    obtain ⟨hnn, hb⟩ := hok
    have hd3 := zz_pm hnn hd
    subst hnn
    split at hb
    next =>
      simp only [Bool.and_eq_true, decide_eq_true_eq] at hb
      obtain ⟨hML, hco, hst⟩ := hb
      obtain ⟨hJ, hdN, hfr, hlo⟩ := callOK_inv hco
      have hML := List.mem_of_elem_eq_true hML
      obtain ⟨as, r, rfl, hlen, h_21⟩ := popN_inv (f := fun as r => rcv (oN Ω) 2 t as (cond (Nat.ble (cS r) 8) _ False)) h
      simp only [List.append_nil] at h_21
      obtain ⟨h8, h_22⟩ := cond_inv h_21
      obtain ⟨K0, hK, hc1, hn1, hn⟩ := cl_inv h_22 hc0 hn0
      exact zi_callS hcx hd3 hJ hML hK (Nat.le_of_ble_eq_true h8) hfr hlo hc1 hn1 (hlen.trans hdN) rfl hst (fun v M' hv => hnx _ _ _ _ _ _ (hn v M' hv))
    next =>
      simp only [Bool.and_eq_true, decide_eq_true_eq] at hb
      obtain ⟨hML, hco, hst⟩ := hb
      obtain ⟨hJ, hdN, hfr, hlo⟩ := callOK_inv hco
      have hML := List.mem_of_elem_eq_true hML
      obtain ⟨as, r, rfl, hlen, h_23⟩ := popN_inv (f := fun as r => rcv (oN Ω) 3 t as (cond (Nat.ble (cS r) 8) _ False)) h
      simp only [List.append_nil] at h_23
      obtain ⟨h8, h_24⟩ := cond_inv h_23
      obtain ⟨K0, hK, hc1, hn1, hn⟩ := cl_inv h_24 hc0 hn0
      exact zi_callSN hcx hd3 hJ hML hK (Nat.le_of_ble_eq_true h8) hfr hlo hc1 hn1 (hlen.trans hdN) rfl hst (fun v M' hv => hnx _ _ _ _ _ _ (hn v M' hv))
    next =>
      simp only [Bool.and_eq_true, decide_eq_true_eq] at hb
      obtain ⟨hM7, hfr, hlo⟩ := hb
      obtain ⟨len, r, rfl, h_25⟩ := pI_inv h
      obtain ⟨dp, r, rfl, h_26⟩ := pI_inv h_25
      obtain ⟨k2, i2, r, rfl, h_27⟩ := pO_inv h_26
      obtain ⟨sp, r, rfl, h_28⟩ := pI_inv h_27
      obtain ⟨k1, i1, r, rfl, h_29⟩ := pO_inv h_28
      obtain ⟨t1, n1, hk1, h_30⟩ := aK_inv h_29
      obtain ⟨t2, n2, hk2, h_31⟩ := aK_inv h_30
      obtain ⟨hc3, ⟨h1, h2, h3, h4, h5⟩, h_32⟩ := cond_inv h_31
      simp only [Bool.and_eq_true] at hc3
      have e1 := Nat.eq_of_beq_eq_true hc3.1
      have e2 := Nat.eq_of_beq_eq_true hc3.2.1
      subst e1
      subst e2
      exact zi_copy hcx hd3 (zz_in zz_M7 zz_M7g (List.mem_map.mpr ⟨(mOw i, x), List.mem_of_elem_eq_true hM7, rfl⟩)) ⟨sys_in (by simp), sys_in (by simp), sys_in (by simp)⟩ hk1 hk2 h1 h2 h3 h4 h5 hfr hlo (Nat.le_of_ble_eq_true hc3.2.2.2.2) (hnx _ _ _ _ _ _ h_32)
    next =>
      simp only [Bool.and_eq_true, decide_eq_true_eq] at hb
      obtain ⟨y, r, rfl, h_33⟩ := pI_inv h
      obtain ⟨x, r, rfl, h_34⟩ := pI_inv h_33
      obtain ⟨h8, h_35⟩ := cond_inv h_34
      exact zi_mmax hcx hd3 (MM_in (List.mem_of_elem_eq_true hb.1)) hb.2.1 hb.2.2 (Nat.le_of_ble_eq_true h8) (hnx _ _ _ _ _ _ h_35)
    next =>
      simp only [Bool.and_eq_true, decide_eq_true_eq] at hb
      obtain ⟨y, r, rfl, h_36⟩ := pI_inv h
      obtain ⟨x, r, rfl, h_37⟩ := pI_inv h_36
      obtain ⟨h8, h_38⟩ := cond_inv h_37
      exact zi_mmin hcx hd3 (MM_in (List.mem_of_elem_eq_true hb.1)) hb.2.1 hb.2.2 (Nat.le_of_ble_eq_true h8) (hnx _ _ _ _ _ _ h_38)
    next =>
      simp only [Bool.and_eq_true, decide_eq_true_eq] at hb
      obtain ⟨y, r, rfl, h_39⟩ := pI_inv h
      obtain ⟨h8, h_40⟩ := cond_inv h_39
      exact zi_mabs hcx hd3 (MM_in (List.mem_of_elem_eq_true hb.1)) hb.2.1 hb.2.2 (Nat.le_of_ble_eq_true h8) (hnx _ _ _ _ _ _ h_40)
    next =>
      simp only [Bool.and_eq_true, decide_eq_true_eq] at hb
      obtain ⟨y, r, rfl, h_41⟩ := pJ_inv h
      obtain ⟨x, r, rfl, h_42⟩ := pJ_inv h_41
      obtain ⟨h8, h_43⟩ := cond_inv h_42
      exact zi_lmax hcx hd3 (MM_in (List.mem_of_elem_eq_true hb.1)) hb.2.1 hb.2.2 (Nat.le_of_ble_eq_true h8) (hnx _ _ _ _ _ _ h_43)
    next =>
      simp only [Bool.and_eq_true, decide_eq_true_eq] at hb
      obtain ⟨y, r, rfl, h_44⟩ := pJ_inv h
      obtain ⟨x, r, rfl, h_45⟩ := pJ_inv h_44
      obtain ⟨h8, h_46⟩ := cond_inv h_45
      exact zi_lmin hcx hd3 (MM_in (List.mem_of_elem_eq_true hb.1)) hb.2.1 hb.2.2 (Nat.le_of_ble_eq_true h8) (hnx _ _ _ _ _ _ h_46)
    next =>
      simp only [Bool.and_eq_true, decide_eq_true_eq] at hb
      obtain ⟨y, r, rfl, h_47⟩ := pJ_inv h
      obtain ⟨h8, h_48⟩ := cond_inv h_47
      exact zi_labs hcx hd3 (MM_in (List.mem_of_elem_eq_true hb.1)) hb.2.1 hb.2.2 (Nat.le_of_ble_eq_true h8) (hnx _ _ _ _ _ _ h_48)
    next => cases hb
set_option maxHeartbeats 8000000 in
theorem ex1_sound {ins : Instr} {nn a b d t : Nat} {vi : Int32} {vj : Int64} {sl : List (Int32 × Nat)} {K : Ka} (hcx : Cx Ω i p s m meth cf) (hret : ReH Ω md i p e s m args below meth cf Q ad0 M0 K) (hd : decode (mB i) pc = .ok (ins, nn - pc)) {nx : Co} (hnx : ∀ pc ls st M c n, nx pc ls st M c n → WW Ω md i p e s m args below meth cf Q ad0 M0 pc ls st M c n) {ls : List (Option Vl)} {st : List Vl} (hok : okI i pc ins nn a b d t vi vj sl = true) (h : ex1 md (oN Ω) i (CallS Ω md) K nx ins nn a b d t vi vj sl ls st M c n) : WW Ω md i p e s m args below meth cf Q ad0 M0 pc ls st M c n := by
  cases ins with
  | iconst v =>
    simp only [okI, Bool.and_eq_true, decide_eq_true_eq] at hok
    obtain ⟨hnn, hv⟩ := hok
    have hd3 := zz_pm hnn hd
    subst hnn
    exact zi_iconst hcx hd3 hv (hnx _ _ _ _ _ _ h)
  | bipush v =>
    simp only [okI, Bool.and_eq_true, decide_eq_true_eq] at hok
    obtain ⟨hnn, hv⟩ := hok
    have hd3 := zz_pm hnn hd
    subst hnn
    exact zi_bipush hcx hd3 hv (hnx _ _ _ _ _ _ h)
  | sipush v =>
    simp only [okI, Bool.and_eq_true, decide_eq_true_eq] at hok
    obtain ⟨hnn, hv⟩ := hok
    have hd3 := zz_pm hnn hd
    subst hnn
    exact zi_sipush hcx hd3 hv (hnx _ _ _ _ _ _ h)
  | lconst v =>
    simp only [okI, Bool.and_eq_true, decide_eq_true_eq] at hok
    obtain ⟨hnn, hv⟩ := hok
    have hd3 := zz_pm hnn hd
    subst hnn
    exact zi_lconst hcx hd3 hv (hnx _ _ _ _ _ _ h)
  | aconst_null =>
    have hok : nn = pc + 1 := of_decide_eq_true hok
    have hd3 := zz_pm hok hd
    subst hok
    exact zi_null hcx hd3 (hnx _ _ _ _ _ _ h)
  | ldc_w x =>
    simp only [okI, Bool.and_eq_true, decide_eq_true_eq] at hok
    obtain ⟨hnn, hC⟩ := hok
    have hd3 := zz_pm hnn hd
    subst hnn
    exact zi_ldc_w hcx hd3 (zz_in zz_CI zz_CIg (List.mem_map.mpr ⟨_, List.mem_of_elem_eq_true hC, rfl⟩)) (hnx _ _ _ _ _ _ h)
  | ldc2_w x =>
    simp only [okI, Bool.and_eq_true, decide_eq_true_eq] at hok
    obtain ⟨hnn, hC⟩ := hok
    have hd3 := zz_pm hnn hd
    subst hnn
    exact zi_ldc2 hcx hd3 (zz_in zz_CJ zz_CJg (List.mem_map.mpr ⟨_, List.mem_of_elem_eq_true hC, rfl⟩)) (hnx _ _ _ _ _ _ h)
  | ldc x =>
    simp only [okI, Bool.and_eq_true, decide_eq_true_eq] at hok
    obtain ⟨hnn, hC⟩ := hok
    have hd3 := zz_pm hnn hd
    subst hnn
    by_cases hd1 : d = 1
    · rw [if_pos hd1] at hC
      simp only [Bool.and_eq_true, decide_eq_true_eq] at hC
      subst hd1
      obtain ⟨ho, rfl⟩ := hC
      exact zi_ldcS hcx hd3 ho (hnx _ _ _ _ _ _ h)
    · rw [if_neg hd1] at hC
      have h : nx (pc + 2) ls (vI vi :: st) M c n := by
        have h2 : cond (Nat.beq d 1) (nx (pc + 2) ls (vR (some (kSTR, 0)) :: st) M c n) (nx (pc + 2) ls (vI vi :: st) M c n) := h
        cases hb : Nat.beq d 1 with
        | true => exact absurd (Nat.eq_of_beq_eq_true hb) hd1
        | false => rw [hb] at h2; exact h2
      exact zi_ldc hcx hd3 (zz_in zz_CI zz_CIg (List.mem_map.mpr ⟨_, List.mem_of_elem_eq_true hC, rfl⟩)) (hnx _ _ _ _ _ _ h)
  | iload k =>
    simp only [okI, Bool.and_eq_true, decide_eq_true_eq] at hok
    obtain ⟨hnn, ha⟩ := hok
    have hd3 := zz_pm hnn hd
    subst hnn
    subst ha
    obtain ⟨x, hl, h_1⟩ := gI_inv h
    exact zi_iload hcx hd3 hl (hnx _ _ _ _ _ _ h_1)
  | iload_n k =>
    simp only [okI, Bool.and_eq_true, decide_eq_true_eq] at hok
    obtain ⟨hnn, ha⟩ := hok
    have hd3 := zz_pm hnn hd
    subst hnn
    obtain ⟨x, hl, h_1⟩ := gI_inv h
    exact zi_iload_n hcx hd3 ha hl (hnx _ _ _ _ _ _ h_1)
  | istore k =>
    simp only [okI, Bool.and_eq_true, decide_eq_true_eq] at hok
    obtain ⟨hnn, ha, hlt⟩ := hok
    have hd3 := zz_pm hnn hd
    subst hnn
    subst ha
    obtain ⟨x, r, rfl, h_1⟩ := pI_inv h
    rw [l1k_eq] at h_1
    exact zi_istore hcx hd3 hlt (hnx _ _ _ _ _ _ h_1)
  | istore_n k =>
    simp only [okI, Bool.and_eq_true, decide_eq_true_eq] at hok
    obtain ⟨hnn, ha, hlt⟩ := hok
    have hd3 := zz_pm hnn hd
    subst hnn
    obtain ⟨x, r, rfl, h_1⟩ := pI_inv h
    rw [l1k_eq] at h_1
    exact zi_istore_n hcx hd3 ha hlt (hnx _ _ _ _ _ _ h_1)
  | lload k =>
    simp only [okI, Bool.and_eq_true, decide_eq_true_eq] at hok
    obtain ⟨hnn, ha⟩ := hok
    have hd3 := zz_pm hnn hd
    subst hnn
    subst ha
    obtain ⟨x, hl, h_1⟩ := gJ_inv h
    exact zi_lload hcx hd3 hl (hnx _ _ _ _ _ _ h_1)
  | lload_n k =>
    simp only [okI, Bool.and_eq_true, decide_eq_true_eq] at hok
    obtain ⟨hnn, ha⟩ := hok
    have hd3 := zz_pm hnn hd
    subst hnn
    obtain ⟨x, hl, h_1⟩ := gJ_inv h
    exact zi_lload_n hcx hd3 ha hl (hnx _ _ _ _ _ _ h_1)
  | lstore k =>
    simp only [okI, Bool.and_eq_true, decide_eq_true_eq] at hok
    obtain ⟨hnn, ha, hlt⟩ := hok
    have hd3 := zz_pm hnn hd
    subst hnn
    subst ha
    obtain ⟨x, r, rfl, h_1⟩ := pJ_inv h
    rw [l2k_eq] at h_1
    exact zi_lstore hcx hd3 hlt (hnx _ _ _ _ _ _ h_1)
  | lstore_n k =>
    simp only [okI, Bool.and_eq_true, decide_eq_true_eq] at hok
    obtain ⟨hnn, ha, hlt⟩ := hok
    have hd3 := zz_pm hnn hd
    subst hnn
    obtain ⟨x, r, rfl, h_1⟩ := pJ_inv h
    rw [l2k_eq] at h_1
    exact zi_lstore_n hcx hd3 ha hlt (hnx _ _ _ _ _ _ h_1)
  | aload k =>
    simp only [okI, Bool.and_eq_true, decide_eq_true_eq] at hok
    obtain ⟨hnn, ha⟩ := hok
    have hd3 := zz_pm hnn hd
    subst hnn
    subst ha
    obtain ⟨x, hl, h_1⟩ := gR_inv h
    exact zi_aload hcx hd3 hl (hnx _ _ _ _ _ _ h_1)
  | aload_n k =>
    simp only [okI, Bool.and_eq_true, decide_eq_true_eq] at hok
    obtain ⟨hnn, ha⟩ := hok
    have hd3 := zz_pm hnn hd
    subst hnn
    obtain ⟨x, hl, h_1⟩ := gR_inv h
    exact zi_aload_n hcx hd3 ha hl (hnx _ _ _ _ _ _ h_1)
  | astore k =>
    simp only [okI, Bool.and_eq_true, decide_eq_true_eq] at hok
    obtain ⟨hnn, ha, hlt⟩ := hok
    have hd3 := zz_pm hnn hd
    subst hnn
    subst ha
    obtain ⟨x, r, rfl, h_1⟩ := pR_inv h
    rw [l1k_eq] at h_1
    exact zi_astore hcx hd3 hlt (hnx _ _ _ _ _ _ h_1)
  | astore_n k =>
    simp only [okI, Bool.and_eq_true, decide_eq_true_eq] at hok
    obtain ⟨hnn, ha, hlt⟩ := hok
    have hd3 := zz_pm hnn hd
    subst hnn
    obtain ⟨x, r, rfl, h_1⟩ := pR_inv h
    rw [l1k_eq] at h_1
    exact zi_astore_n hcx hd3 ha hlt (hnx _ _ _ _ _ _ h_1)
  | iinc k v =>
    simp only [okI, Bool.and_eq_true, decide_eq_true_eq] at hok
    obtain ⟨hnn, ha, hv, hlt⟩ := hok
    have hd3 := zz_pm hnn hd
    subst hnn
    subst ha
    obtain ⟨x, hl, h_1⟩ := gI_inv h
    rw [l1k_eq] at h_1
    exact zi_iinc hcx hd3 hv hl hlt (hnx _ _ _ _ _ _ h_1)
  | iadd =>
    have hok : nn = pc + 1 := of_decide_eq_true hok
    have hd3 := zz_pm hok hd
    subst hok
    obtain ⟨y, r, rfl, h_1⟩ := pI_inv h
    obtain ⟨x, r, rfl, h_2⟩ := pI_inv h_1
    exact zi_iadd hcx hd3 (hnx _ _ _ _ _ _ h_2)
  | isub =>
    have hok : nn = pc + 1 := of_decide_eq_true hok
    have hd3 := zz_pm hok hd
    subst hok
    obtain ⟨y, r, rfl, h_1⟩ := pI_inv h
    obtain ⟨x, r, rfl, h_2⟩ := pI_inv h_1
    exact zi_isub hcx hd3 (hnx _ _ _ _ _ _ h_2)
  | imul =>
    have hok : nn = pc + 1 := of_decide_eq_true hok
    have hd3 := zz_pm hok hd
    subst hok
    obtain ⟨y, r, rfl, h_1⟩ := pI_inv h
    obtain ⟨x, r, rfl, h_2⟩ := pI_inv h_1
    exact zi_imul hcx hd3 (hnx _ _ _ _ _ _ h_2)
  | iand =>
    have hok : nn = pc + 1 := of_decide_eq_true hok
    have hd3 := zz_pm hok hd
    subst hok
    obtain ⟨y, r, rfl, h_1⟩ := pI_inv h
    obtain ⟨x, r, rfl, h_2⟩ := pI_inv h_1
    exact zi_iand hcx hd3 (hnx _ _ _ _ _ _ h_2)
  | ishl =>
    have hok : nn = pc + 1 := of_decide_eq_true hok
    have hd3 := zz_pm hok hd
    subst hok
    obtain ⟨y, r, rfl, h_1⟩ := pI_inv h
    obtain ⟨x, r, rfl, h_2⟩ := pI_inv h_1
    exact zi_ishl hcx hd3 (hnx _ _ _ _ _ _ h_2)
  | ishr =>
    have hok : nn = pc + 1 := of_decide_eq_true hok
    have hd3 := zz_pm hok hd
    subst hok
    obtain ⟨y, r, rfl, h_1⟩ := pI_inv h
    obtain ⟨x, r, rfl, h_2⟩ := pI_inv h_1
    exact zi_ishr hcx hd3 (hnx _ _ _ _ _ _ h_2)
  | iushr =>
    have hok : nn = pc + 1 := of_decide_eq_true hok
    have hd3 := zz_pm hok hd
    subst hok
    obtain ⟨y, r, rfl, h_1⟩ := pI_inv h
    obtain ⟨x, r, rfl, h_2⟩ := pI_inv h_1
    exact zi_iushr hcx hd3 (hnx _ _ _ _ _ _ h_2)
  | idiv =>
    have hok : nn = pc + 1 := of_decide_eq_true hok
    have hd3 := zz_pm hok hd
    subst hok
    obtain ⟨y, r, rfl, h_1⟩ := pI_inv h
    obtain ⟨x, r, rfl, h0, h_2⟩ := pI_inv h_1
    exact zi_idiv hcx hd3 h0 (hnx _ _ _ _ _ _ h_2)
  | irem =>
    have hok : nn = pc + 1 := of_decide_eq_true hok
    have hd3 := zz_pm hok hd
    subst hok
    obtain ⟨y, r, rfl, h_1⟩ := pI_inv h
    obtain ⟨x, r, rfl, h0, h_2⟩ := pI_inv h_1
    exact zi_irem hcx hd3 h0 (hnx _ _ _ _ _ _ h_2)
  | ineg =>
    have hok : nn = pc + 1 := of_decide_eq_true hok
    have hd3 := zz_pm hok hd
    subst hok
    obtain ⟨x, r, rfl, h_1⟩ := pI_inv h
    exact zi_ineg hcx hd3 (hnx _ _ _ _ _ _ h_1)
  | ladd =>
    have hok : nn = pc + 1 := of_decide_eq_true hok
    have hd3 := zz_pm hok hd
    subst hok
    obtain ⟨y, r, rfl, h_1⟩ := pJ_inv h
    obtain ⟨x, r, rfl, h_2⟩ := pJ_inv h_1
    exact zi_ladd hcx hd3 (hnx _ _ _ _ _ _ h_2)
  | lsub =>
    have hok : nn = pc + 1 := of_decide_eq_true hok
    have hd3 := zz_pm hok hd
    subst hok
    obtain ⟨y, r, rfl, h_1⟩ := pJ_inv h
    obtain ⟨x, r, rfl, h_2⟩ := pJ_inv h_1
    exact zi_lsub hcx hd3 (hnx _ _ _ _ _ _ h_2)
  | lmul =>
    have hok : nn = pc + 1 := of_decide_eq_true hok
    have hd3 := zz_pm hok hd
    subst hok
    obtain ⟨y, r, rfl, h_1⟩ := pJ_inv h
    obtain ⟨x, r, rfl, h_2⟩ := pJ_inv h_1
    exact zi_lmul hcx hd3 (hnx _ _ _ _ _ _ h_2)
  | lcmp =>
    have hok : nn = pc + 1 := of_decide_eq_true hok
    have hd3 := zz_pm hok hd
    subst hok
    obtain ⟨y, r, rfl, h_1⟩ := pJ_inv h
    obtain ⟨x, r, rfl, h_2⟩ := pJ_inv h_1
    exact zi_lcmp hcx hd3 (hnx _ _ _ _ _ _ h_2)
  | ldiv =>
    have hok : nn = pc + 1 := of_decide_eq_true hok
    have hd3 := zz_pm hok hd
    subst hok
    obtain ⟨y, r, rfl, h_1⟩ := pJ_inv h
    obtain ⟨x, r, rfl, h0, h_2⟩ := pJ_inv h_1
    exact zi_ldiv hcx hd3 h0 (hnx _ _ _ _ _ _ h_2)
  | lneg =>
    have hok : nn = pc + 1 := of_decide_eq_true hok
    have hd3 := zz_pm hok hd
    subst hok
    obtain ⟨x, r, rfl, h_1⟩ := pJ_inv h
    exact zi_lneg hcx hd3 (hnx _ _ _ _ _ _ h_1)
  | l2i =>
    have hok : nn = pc + 1 := of_decide_eq_true hok
    have hd3 := zz_pm hok hd
    subst hok
    obtain ⟨x, r, rfl, h_1⟩ := pJ_inv h
    exact zi_l2i hcx hd3 (hnx _ _ _ _ _ _ h_1)
  | i2l =>
    have hok : nn = pc + 1 := of_decide_eq_true hok
    have hd3 := zz_pm hok hd
    subst hok
    obtain ⟨x, r, rfl, h_1⟩ := pI_inv h
    exact zi_i2l hcx hd3 (hnx _ _ _ _ _ _ h_1)
  | i2b =>
    have hok : nn = pc + 1 := of_decide_eq_true hok
    have hd3 := zz_pm hok hd
    subst hok
    obtain ⟨x, r, rfl, h_1⟩ := pI_inv h
    exact zi_i2b hcx hd3 (hnx _ _ _ _ _ _ h_1)
  | dup =>
    have hok : nn = pc + 1 := of_decide_eq_true hok
    have hd3 := zz_pm hok hd
    subst hok
    have g1 : p1 st (fun v r => nx (pc + 1) ls (v :: v :: r) M c n) := h
    obtain ⟨v, r, rfl, hv, g2⟩ := p1_inv g1
    exact zi_dup hcx hd3 hv (hnx _ _ _ _ _ _ g2)
  | dup2 =>
    have hok : nn = pc + 1 := of_decide_eq_true hok
    have hd3 := zz_pm hok hd
    subst hok
    have g1 : p1 st (fun v r => p1 r fun w r => nx (pc + 1) ls (v :: w :: v :: w :: r) M c n) := h
    obtain ⟨v, r, rfl, hv, g2⟩ := p1_inv g1
    obtain ⟨w, r, rfl, hw, g3⟩ := p1_inv g2
    exact zi_dup2 hcx hd3 hv hw (hnx _ _ _ _ _ _ g3)
  | ifCond q off =>
    simp only [okI, Bool.and_eq_true, decide_eq_true_eq] at hok
    obtain ⟨hnn, ht⟩ := hok
    have hd3 := zz_pm hnn hd
    subst hnn
    obtain ⟨y, r, rfl, h_1⟩ := pI_inv h
    cases q with
    | eq => exact zi_if_eq hcx hd3 ht (fun g => hnx _ _ _ _ _ _ (h_1.1 g)) (fun g => hnx _ _ _ _ _ _ (h_1.2 g))
    | ne => exact zi_if_ne hcx hd3 ht (fun g => hnx _ _ _ _ _ _ (h_1.1 g)) (fun g => hnx _ _ _ _ _ _ (h_1.2 g))
    | lt => exact zi_if_lt hcx hd3 ht (fun g => hnx _ _ _ _ _ _ (h_1.1 g)) (fun g => hnx _ _ _ _ _ _ (h_1.2 g))
    | ge => exact zi_if_ge hcx hd3 ht (fun g => hnx _ _ _ _ _ _ (h_1.1 g)) (fun g => hnx _ _ _ _ _ _ (h_1.2 g))
    | gt => exact zi_if_gt hcx hd3 ht (fun g => hnx _ _ _ _ _ _ (h_1.1 g)) (fun g => hnx _ _ _ _ _ _ (h_1.2 g))
    | le => exact zi_if_le hcx hd3 ht (fun g => hnx _ _ _ _ _ _ (h_1.1 g)) (fun g => hnx _ _ _ _ _ _ (h_1.2 g))
  | if_icmp q off =>
    simp only [okI, Bool.and_eq_true, decide_eq_true_eq] at hok
    obtain ⟨hnn, ht⟩ := hok
    have hd3 := zz_pm hnn hd
    subst hnn
    obtain ⟨y, r, rfl, h_1⟩ := pI_inv h
    obtain ⟨x, r, rfl, h_2⟩ := pI_inv h_1
    cases q with
    | eq => exact zi_icmp_eq hcx hd3 ht (fun g => hnx _ _ _ _ _ _ (h_2.1 g)) (fun g => hnx _ _ _ _ _ _ (h_2.2 g))
    | ne => exact zi_icmp_ne hcx hd3 ht (fun g => hnx _ _ _ _ _ _ (h_2.1 g)) (fun g => hnx _ _ _ _ _ _ (h_2.2 g))
    | lt => exact zi_icmp_lt hcx hd3 ht (fun g => hnx _ _ _ _ _ _ (h_2.1 g)) (fun g => hnx _ _ _ _ _ _ (h_2.2 g))
    | ge => exact zi_icmp_ge hcx hd3 ht (fun g => hnx _ _ _ _ _ _ (h_2.1 g)) (fun g => hnx _ _ _ _ _ _ (h_2.2 g))
    | gt => exact zi_icmp_gt hcx hd3 ht (fun g => hnx _ _ _ _ _ _ (h_2.1 g)) (fun g => hnx _ _ _ _ _ _ (h_2.2 g))
    | le => exact zi_icmp_le hcx hd3 ht (fun g => hnx _ _ _ _ _ _ (h_2.1 g)) (fun g => hnx _ _ _ _ _ _ (h_2.2 g))
  | goto off =>
    simp only [okI, Bool.and_eq_true, decide_eq_true_eq] at hok
    obtain ⟨hnn, ht⟩ := hok
    have hd3 := zz_pm hnn hd
    subst hnn
    exact zi_goto hcx hd3 ht (hnx _ _ _ _ _ _ h)
  | ifnull off =>
    simp only [okI, Bool.and_eq_true, decide_eq_true_eq] at hok
    obtain ⟨hnn, ht⟩ := hok
    have hd3 := zz_pm hnn hd
    subst hnn
    obtain ⟨x, r, rfl, h_1⟩ := pR_inv h
    cases x with
    | none => exact zi_ifnull_N hcx hd3 ht (hnx _ _ _ _ _ _ h_1)
    | some q => exact zi_ifnull_S hcx hd3 ht (hnx _ _ _ _ _ _ h_1)
  | ifnonnull off =>
    simp only [okI, Bool.and_eq_true, decide_eq_true_eq] at hok
    obtain ⟨hnn, ht⟩ := hok
    have hd3 := zz_pm hnn hd
    subst hnn
    obtain ⟨x, r, rfl, h_1⟩ := pR_inv h
    cases x with
    | none => exact zi_ifnonnull_N hcx hd3 ht (hnx _ _ _ _ _ _ h_1)
    | some q => exact zi_ifnonnull_S hcx hd3 ht (hnx _ _ _ _ _ _ h_1)
  | tableswitch dflt lo hi offs =>
    simp only [okI, Bool.and_eq_true, decide_eq_true_eq] at hok
    obtain ⟨ha, hsw⟩ := hok
    obtain ⟨x, r, rfl, h_1⟩ := pI_inv h
    exact sw_sound hcx hd ha hsw hnx h_1
  | getfield x =>
    simp only [okI, Bool.and_eq_true, decide_eq_true_eq] at hok
    obtain ⟨hnn, hF, ht⟩ := hok
    have hd3 := zz_pm hnn hd
    subst hnn
    have hF := List.mem_of_elem_eq_true hF
    obtain ⟨k, j, r, rfl, h_1⟩ := pO_inv h
    obtain ⟨hk, h_2⟩ := oK_inv h_1
    have h5 : tagF (clT a b) = 0 ∨ tagF (clT a b) = 1 ∨ tagF (clT a b) = 2 ∨ tagF (clT a b) = 3 ∨ tagF (clT a b) = 4 := by
      generalize clT a b = ty
      cases ty <;> simp [tagF]
    rcases h5 with h5 | h5 | h5 | h5 | h5 <;> (rw [h5] at ht; subst ht)
    · exact zi_getfI hcx hd3 hk hF (Or.inl h5) (hnx _ _ _ _ _ _ h_2)
    · exact zi_getfI hcx hd3 hk hF (Or.inr (Or.inl h5)) (hnx _ _ _ _ _ _ h_2)
    · exact zi_getfI hcx hd3 hk hF (Or.inr (Or.inr h5)) (hnx _ _ _ _ _ _ h_2)
    · exact zi_getfJ hcx hd3 hk hF h5 (hnx _ _ _ _ _ _ h_2)
    · exact zi_getfR hcx hd3 hk hF h5 (hnx _ _ _ _ _ _ h_2)
  | putfield x =>
    simp only [okI, Bool.and_eq_true, decide_eq_true_eq, Bool.or_eq_true, Bool.not_eq_true'] at hok
    obtain ⟨hnn, hF, hfin, ht⟩ := hok
    have hd3 := zz_pm hnn hd
    subst hnn
    have hF := List.mem_of_elem_eq_true hF
    split at ht
    next =>
      have ht := of_decide_eq_true ht
      obtain ⟨x, r, rfl, h_1⟩ := pI_inv h
      obtain ⟨k, j, r, rfl, h_2⟩ := pO_inv h_1
      obtain ⟨hk, h_3⟩ := oK_inv h_2
      exact zi_putfI hcx hd3 hk hF hfin (Or.inl ht) (hnx _ _ _ _ _ _ h_3)
    next =>
      have ht := of_decide_eq_true ht
      obtain ⟨x, r, rfl, h_4⟩ := pI_inv h
      obtain ⟨k, j, r, rfl, h_5⟩ := pO_inv h_4
      obtain ⟨hk, hb, h_6⟩ := oK_inv h_5
      exact zi_putfI hcx hd3 hk hF hfin (Or.inr ⟨ht, hb⟩) (hnx _ _ _ _ _ _ h_6)
    next =>
      have ht := of_decide_eq_true ht
      obtain ⟨x, r, rfl, h_7⟩ := pJ_inv h
      obtain ⟨k, j, r, rfl, h_8⟩ := pO_inv h_7
      obtain ⟨hk, h_9⟩ := oK_inv h_8
      exact zi_putfJ hcx hd3 hk hF hfin ht (hnx _ _ _ _ _ _ h_9)
    next =>
      have ht := of_decide_eq_true ht
      obtain ⟨x, r, rfl, h_10⟩ := pR_inv h
      obtain ⟨k, j, r, rfl, h_11⟩ := pO_inv h_10
      obtain ⟨hk, h_12⟩ := oK_inv h_11
      obtain ⟨hsr, h_13⟩ := nN_inv h_12
      exact zi_putfR hcx hd3 hk hF hfin ht hsr (hnx _ _ _ _ _ _ h_13)
    next => cases ht
  | iaload =>
    have hok : nn = pc + 1 := of_decide_eq_true hok
    have hd3 := zz_pm hok hd
    subst hok
    obtain ⟨x, r, rfl, h_1⟩ := pI_inv h
    obtain ⟨k, j, r, rfl, h_2⟩ := pO_inv h_1
    obtain ⟨tg, len, hk, h_3⟩ := aK_inv h_2
    obtain ⟨e1, hin, h_4⟩ := cond_inv h_3
    have e1 := Nat.eq_of_beq_eq_true e1
    subst e1
    exact zi_iald hcx hd3 hk hin (hnx _ _ _ _ _ _ h_4)
  | laload =>
    have hok : nn = pc + 1 := of_decide_eq_true hok
    have hd3 := zz_pm hok hd
    subst hok
    obtain ⟨x, r, rfl, h_1⟩ := pI_inv h
    obtain ⟨k, j, r, rfl, h_2⟩ := pO_inv h_1
    obtain ⟨tg, len, hk, h_3⟩ := aK_inv h_2
    obtain ⟨e1, hin, h_4⟩ := cond_inv h_3
    have e1 := Nat.eq_of_beq_eq_true e1
    subst e1
    exact zi_lald hcx hd3 hk hin (hnx _ _ _ _ _ _ h_4)
  | baload =>
    have hok : nn = pc + 1 := of_decide_eq_true hok
    have hd3 := zz_pm hok hd
    subst hok
    obtain ⟨x, r, rfl, h_1⟩ := pI_inv h
    obtain ⟨k, j, r, rfl, h_2⟩ := pO_inv h_1
    obtain ⟨tg, len, hk, h_3⟩ := aK_inv h_2
    obtain ⟨e1, hin, h_4⟩ := cond_inv h_3
    simp only [Bool.or_eq_true] at e1
    rcases e1 with e1 | e1
    · have e1 := Nat.eq_of_beq_eq_true e1
      subst e1
      exact zi_bald hcx hd3 hk hin (hnx _ _ _ _ _ _ h_4)
    · have e1 := Nat.eq_of_beq_eq_true e1
      subst e1
      exact zi_zald hcx hd3 hk hin (hnx _ _ _ _ _ _ h_4)
  | aaload =>
    have hok : nn = pc + 1 := of_decide_eq_true hok
    have hd3 := zz_pm hok hd
    subst hok
    obtain ⟨x, r, rfl, h_1⟩ := pI_inv h
    obtain ⟨k, j, r, rfl, h_2⟩ := pO_inv h_1
    obtain ⟨tg, len, hk, h_3⟩ := aK_inv h_2
    obtain ⟨e1, hin, h_4⟩ := cond_inv h_3
    simp only [Bool.and_eq_true] at e1
    exact zi_aald hcx hd3 hk ⟨Nat.le_of_ble_eq_true e1.1, Nat.le_of_ble_eq_true e1.2⟩ hin (hnx _ _ _ _ _ _ h_4)
  | iastore =>
    have hok : nn = pc + 1 := of_decide_eq_true hok
    have hd3 := zz_pm hok hd
    subst hok
    obtain ⟨y, r, rfl, h_1⟩ := pI_inv h
    obtain ⟨x, r, rfl, h_2⟩ := pI_inv h_1
    obtain ⟨k, j, r, rfl, h_3⟩ := pO_inv h_2
    obtain ⟨tg, len, hk, h_4⟩ := aK_inv h_3
    obtain ⟨e1, hin, h_5⟩ := cond_inv h_4
    simp only [Bool.and_eq_true] at e1
    have e2 := Nat.eq_of_beq_eq_true e1.1
    subst e2
    exact zi_iast hcx hd3 hk (Nat.le_of_ble_eq_true e1.2) hin (hnx _ _ _ _ _ _ h_5)
  | lastore =>
    have hok : nn = pc + 1 := of_decide_eq_true hok
    have hd3 := zz_pm hok hd
    subst hok
    obtain ⟨y, r, rfl, h_1⟩ := pJ_inv h
    obtain ⟨x, r, rfl, h_2⟩ := pI_inv h_1
    obtain ⟨k, j, r, rfl, h_3⟩ := pO_inv h_2
    obtain ⟨tg, len, hk, h_4⟩ := aK_inv h_3
    obtain ⟨e1, hin, h_5⟩ := cond_inv h_4
    have e2 := Nat.eq_of_beq_eq_true e1
    subst e2
    refine zi_last hcx hd3 hk ?_ hin (hnx _ _ _ _ _ _ h_5)
    by_cases hkK : k < kK
    · exact hkK
    · exact absurd hk (kd_big hkK (by decide))
  | bastore =>
    have hok : nn = pc + 1 := of_decide_eq_true hok
    have hd3 := zz_pm hok hd
    subst hok
    obtain ⟨y, r, rfl, h_1⟩ := pI_inv h
    obtain ⟨x, r, rfl, h_2⟩ := pI_inv h_1
    obtain ⟨k, j, r, rfl, h_3⟩ := pO_inv h_2
    obtain ⟨tg, len, hk, h_4⟩ := aK_inv h_3
    split at h_4
    next =>
      obtain ⟨hin, h_5⟩ := h_4
      exact zi_bast hcx hd3 hk (Nat.lt_of_not_le fun hkK => absurd hk (kd_big (Nat.not_lt.mpr hkK) (by decide))) hin (hnx _ _ _ _ _ _ h_5)
    next =>
      obtain ⟨hin, hb, h_6⟩ := h_4
      exact zi_zast hcx hd3 hk (Nat.lt_of_not_le fun hkK => absurd hk (kd_big (Nat.not_lt.mpr hkK) (by decide))) hin hb (hnx _ _ _ _ _ _ h_6)
    next => exact h_4.elim
  | aastore =>
    have hok : nn = pc + 1 := of_decide_eq_true hok
    have hd3 := zz_pm hok hd
    subst hok
    obtain ⟨k1, j1, r, rfl, h_1⟩ := pO_inv h
    obtain ⟨x, r, rfl, h_2⟩ := pI_inv h_1
    obtain ⟨k, j, r, rfl, h_3⟩ := pO_inv h_2
    obtain ⟨tg, len, hk, h_4⟩ := aK_inv h_3
    obtain ⟨hk1, h_5⟩ := oK_inv h_4
    obtain ⟨e1, hin, h_6⟩ := cond_inv h_5
    obtain ⟨hsr, h_7⟩ := nN_inv h_6
    simp only [Bool.and_eq_true] at e1
    exact zi_aast hcx hd3 hk hk1 ⟨Nat.le_of_ble_eq_true e1.1, Nat.le_of_ble_eq_true e1.2⟩ hin hsr (hnx _ _ _ _ _ _ h_7)
  | arraylength =>
    have hok : nn = pc + 1 := of_decide_eq_true hok
    have hd3 := zz_pm hok hd
    subst hok
    obtain ⟨k, j, r, rfl, h_1⟩ := pO_inv h
    obtain ⟨tg, len, hk, h_2⟩ := aK_inv h_1
    obtain ⟨e1, h_3⟩ := cond_inv h_2
    exact zi_alen hcx hd3 hk (Nat.le_of_ble_eq_true e1) (hnx _ _ _ _ _ _ h_3)
  | newarray ty =>
    simp only [okI, Bool.and_eq_true, decide_eq_true_eq] at hok
    obtain ⟨hnn, hkK, hm⟩ := hok
    have hd3 := zz_pm hnn hd
    subst hnn
    have hkd : kd (oN Ω) a = kd0 a := kd_eq _ _ (by unfold kSCR; unfold kK at hkK; omega)
    obtain ⟨x, r, rfl, h_1⟩ := pI_inv h
    obtain ⟨tg, len, hk, h_2⟩ := aK_inv h_1
    rw [← hkd, hk] at hm
    simp only [Bool.and_eq_true, decide_eq_true_eq] at hm
    cases md with
    | true => exact h_2.elim
    | false =>
      obtain ⟨hx, ⟨hc1, hn1⟩, h_3⟩ := h_2
      refine zi_newa hcx hd3 rfl hkK hk hm.1 hm.2 ?_ hx hc1 hn1 (hnx _ _ _ _ _ _ h_3)
      rw [hm.2]
      rcases (show tg = 0 ∨ tg = 1 ∨ tg = 2 ∨ tg = 3 by omega) with rfl | rfl | rfl | rfl <;> exact sys_in (by simp [tagT])
  | anewarray x =>
    simp only [okI, Bool.and_eq_true, decide_eq_true_eq] at hok
    obtain ⟨hnn, hkK, hm⟩ := hok
    have hd3 := zz_pm hnn hd
    subst hnn
    have hkd : kd (oN Ω) a = kd0 a := kd_eq _ _ (by unfold kSCR; unfold kK at hkK; omega)
    obtain ⟨z, r, rfl, h_1⟩ := pI_inv h
    obtain ⟨tg, len, hk, h_2⟩ := aK_inv h_1
    rw [← hkd, hk] at hm
    simp only [Bool.and_eq_true, decide_eq_true_eq] at hm
    cases md with
    | true => exact h_2.elim
    | false =>
      obtain ⟨hx, ⟨hc1, hn1⟩, h_3⟩ := h_2
      exact zi_newq hcx hd3 rfl hkK hk hm.1 (zz_in zz_NL zz_NLg (List.mem_map.mpr ⟨_, List.mem_of_elem_eq_true hm.2, rfl⟩)) hx hc1 hn1 (hnx _ _ _ _ _ _ h_3)
  | new x =>
    simp only [okI, Bool.and_eq_true, decide_eq_true_eq] at hok
    obtain ⟨hnn, hkK, hm⟩ := hok
    have hd3 := zz_pm hnn hd
    subst hnn
    have hkd : kd (oN Ω) a = kd0 a := kd_eq _ _ (by unfold kSCR; unfold kK at hkK; omega)
    obtain ⟨hk, h_1⟩ := oK_inv h
    rw [← hkd, hk] at hm
    simp only [Bool.and_eq_true] at hm
    cases md with
    | true => exact h_1.elim
    | false =>
      obtain ⟨⟨hc1, hn1⟩, h_2⟩ := h_1
      obtain ⟨o, ho, he⟩ := List.any_eq_true.mp hm.2.2
      have he := of_decide_eq_true he
      exact zi_new hcx hd3 rfl hkK hk (zz_in zz_NL zz_NLg (List.mem_map.mpr ⟨_, List.mem_of_elem_eq_true hm.1, rfl⟩)) (zz_in zz_NS zz_NSg (List.mem_map.mpr ⟨a, List.mem_of_elem_eq_true hm.2.1, rfl⟩)) (he ▸ zz_in zz_NI zz_NIg (List.mem_map.mpr ⟨o, ho, rfl⟩)) hc1 hn1 (hnx _ _ _ _ _ _ h_2)
  | getstatic x =>
    simp only [okI, Bool.and_eq_true, decide_eq_true_eq] at hok
    obtain ⟨hnn, ho, hx⟩ := hok
    have hd3 := zz_pm hnn hd
    subst hnn
    subst hx
    exact zi_gets hcx hd3 (by rw [ho]; exact sys_in (by simp)) (hnx _ _ _ _ _ _ h)
  | invokevirtual x =>
    exact inv_sound hcx hret hd hnx hok (Or.inl ⟨x, rfl⟩) h
  | invokespecial x =>
    exact inv_sound hcx hret hd hnx hok (Or.inr (Or.inl ⟨x, rfl⟩)) h
  | invokestatic x =>
    exact inv_sound hcx hret hd hnx hok (Or.inr (Or.inr ⟨x, rfl⟩)) h
  | ireturn =>
    simp only [okI, Bool.and_eq_true, decide_eq_true_eq] at hok
    obtain ⟨hnn, hT⟩ := hok
    have hd3 := zz_pm hnn hd
    subst hnn
    rcases st with _ | ⟨x | x | x, _ | ⟨y, r⟩⟩
    · exact h.elim
    · have h : cond (mZ i) ((x = 0 ∨ x = 1) ∧ K (some (vI x)) M) (K (some (vI x)) M) := h
      rcases hT with hT | hT
      · have hz : mZ i = false := by unfold mZ; rw [hT]
        rw [hz] at h
        exact zi_ret hret hd3 h ⟨rfl, Or.inl hT⟩ rfl
      · have hz : mZ i = true := by unfold mZ; rw [hT]
        rw [hz] at h
        exact zi_ret hret hd3 h.2 ⟨rfl, Or.inr ⟨hT, h.1⟩⟩ rfl
    all_goals exact h.elim
  | lreturn =>
    simp only [okI, Bool.and_eq_true, decide_eq_true_eq] at hok
    obtain ⟨hnn, hT⟩ := hok
    have hd3 := zz_pm hnn hd
    subst hnn
    rcases st with _ | ⟨x | x | x, _ | ⟨y, r⟩⟩
    · exact h.elim
    · exact h.elim
    · exact h.elim
    · exact zi_ret (v := some (vJ x)) hret hd3 h ⟨rfl, hT⟩ rfl
    all_goals exact h.elim
  | areturn =>
    simp only [okI, Bool.and_eq_true, decide_eq_true_eq] at hok
    obtain ⟨hnn, hT⟩ := hok
    have hd3 := zz_pm hnn hd
    subst hnn
    rcases st with _ | ⟨x | x | x, _ | ⟨y, r⟩⟩
    · exact h.elim
    · exact h.elim
    · exact h.elim
    · exact h.elim
    · exact h.elim
    · refine zi_ret (v := some (vR x)) hret hd3 h ⟨rfl, ?_⟩ rfl
      split at hT
      next z hz => exact ⟨_, hz, Or.inl ⟨_, rfl⟩⟩
      next z hz => exact ⟨_, hz, Or.inr ⟨_, rfl⟩⟩
      next => cases hT
    all_goals exact h.elim
  | return_ =>
    simp only [okI, Bool.and_eq_true, decide_eq_true_eq] at hok
    obtain ⟨hnn, hT⟩ := hok
    have hd3 := zz_pm hnn hd
    subst hnn
    cases st with
    | nil => exact zi_ret (v := none) hret hd3 h ⟨rfl, hT⟩ rfl
    | cons v r => exact h.elim
  | _ => exact h.elim
end MAIN
