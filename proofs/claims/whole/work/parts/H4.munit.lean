/-! READ: the model's reader: a unit; going on where a fault may stand -/
def gnS (s : Ps) : Except Fa Ps := if 500 ≤ s.1 then .error (2, s.1) else .ok (s.1 + 1, s.1, s.2.2)
theorem gn_tk {B : Nat → Nat} {n due : Nat} {s : Ps} (h : tkK B n s.1 = due) : tkS B n due s = gnS s := by
  unfold tkS gnS
  rw [if_pos h]
theorem c_MD_goesOnE (Ω : Om) (M : Mem) (B : Nat → Nat) (n : Nat) (f : Fa) (K : Ka) (h : PsM M B n (.error f)) (hK : ∀ M', Un wMe M M' → PsM M' B n (.error f) → K none M') : CallS Ω true m_MD_goesOn [vR (some (12, 0))] M K := by
  obtain ⟨hf, ⟨t, ht, e11⟩, e13, e14⟩ := h.2
  refine call_go (hJL rfl) (Nat.le_of_ble_eq_true rfl) (go_wp ok_MD_goesOn [] 250 _ _ _ _ _ _ ?_)
  conv => whnf
  rw [e11]
  refine And.intro (fun z => ?_) (fun z => ?_)
  · have z : ¬ t = 500 := fun q => z (by rw [q]; rfl)
    conv => whnf
    rw [e11, nI_1]
    have hU : Un wMe M (sI M 12 0 11 (nI (t + 1))) := Un.rfl.pI rfl
    exact hK _ hU ⟨h.1.me hU, hf, ⟨t + 1, by omega, mI_eq⟩, (mI_st rfl).trans e13, (mI_st rfl).trans e14⟩
  · conv => whnf
    refine ⟨fun r M' => r = none ∧ Un wMe M M' ∧ PsM M' B n (.error f), c_MD_fail Ω M B n 2 (.error f) _ (Or.inr rfl) h (fun M' a b => ⟨rfl, a, b⟩), trivial, ?_⟩
    rintro r M1 ⟨rfl, q1, q2⟩
    conv => whnf
    exact hK M1 q1 q2
theorem c_MD_goesOn2 (Ω : Om) (M : Mem) (B : Nat → Nat) (n : Nat) (e : Except Fa Ps) (K : Ka) (hk : ∀ s, e = .ok s → 2 ≤ tkK B n s.1) (h : PsM M B n e) (hK : ∀ M', Un wMe M M' → PsM M' B n (eb e gnS) → K none M') : CallS Ω true m_MD_goesOn [vR (some (12, 0))] M K := by
  cases e with
  | error f => exact c_MD_goesOnE Ω M B n f K h hK
  | ok s => exact c_MD_goesOn Ω M B n s K (hk s rfl) h hK
theorem PsM.cd {M M' : Mem} {B : Nat → Nat} {n lo hi : Nat} {e : Except Fa Ps} (h : PsM M B n e) (hU : Un (wCd lo hi) M M') : PsM M' B n e := h.un hU (fun s h1 h2 _ => by simp [wCd, nb_d]; omega) (fun k s h1 h2 => by simp [wCd, nb_d]; omega)
def wUx (lo hi k i s : Nat) : Bool := wMe k i s || wCd lo hi k i s
theorem wUx_me {lo hi : Nat} : ∀ k i s, wUx lo hi k i s = false → wMe k i s = false := fun k i s q => (Bool.or_eq_false_iff.mp q).1
theorem wUx_cd {lo hi : Nat} : ∀ k i s, wUx lo hi k i s = false → wCd lo hi k i s = false := fun k i s q => (Bool.or_eq_false_iff.mp q).2
theorem CdM.me {M M' : Mem} {q : Nat} {C : List Cd} (h : CdM M q C) (hU : Un wMe M M') : CdM M' q C := ⟨(hU.I rfl).trans h.1, h.2.un hU (fun _ => rfl) (fun _ => rfl)⟩
theorem WtM.me {M M' : Mem} {P : List Nat} (h : WtM M P) (hU : Un wMe M M') : WtM M' P := h.cg (hU.I rfl) (fun _ _ => hU.I rfl)
theorem mk_34 : ∀ k, k < 222 → kdR k = true → ((34 ≤ mkK k ∧ mkK k ≤ 41) ↔ (214 ≤ k ∧ k ≤ 221)) ∧ (214 ≤ k → k ≤ 221 → mkK k = k - 180) := by decide +kernel
theorem c_MD_unitE (Ω : Om) (M : Mem) (B : Nat → Nat) (n : Nat) (f : Fa) (K : Ka) (h : PsM M B n (.error f)) (hK : ∀ M', Un wMe M M' → PsM M' B n (.error f) → K none M') : CallS Ω true m_MD_unit [vR (some (12, 0))] M K := by
  rcases rm_fault h with ⟨f', e1, e2, e3⟩ | ⟨s', e1, e2, e3⟩
  · refine call_go (hJL rfl) (Nat.le_of_ble_eq_true rfl) (go_wp ok_MD_unit [] 250 _ _ _ _ _ _ ?_)
    conv => whnf
    refine cl_use (fun K h' => c_MD_is Ω M B n 3 2 _ K rfl (by decide) rfl h h') trivial ?_
    refine And.intro (fun _ => ?_) (fun c => absurd rfl c)
    conv => whnf
    refine And.intro (fun _ => ?_) (fun c => absurd c e2)
    conv => whnf
    refine ⟨fun r M' => r = none ∧ Un wMe M M' ∧ PsM M' B n (.error f), c_MD_fail Ω M B n 1 (.error f) _ (Or.inl rfl) h (fun M' a b => ⟨rfl, a, b⟩), trivial, ?_⟩
    rintro r M1 ⟨rfl, q1, q2⟩
    conv => whnf
    exact hK M1 q1 q2
  · cases e1
set_option maxHeartbeats 2000000 in
theorem c_MD_unit (Ω : Om) (M : Mem) (B : Nat → Nat) (n q hi : Nat) (s : Ps) (C : List Cd) (K : Ka) (h : PsM M B n (.ok s)) (hC : CdM M q C) (hhi : hi ≤ 2600) (hq : q + C.length < hi)
    (hK : ∀ M', Un (wUx q hi) M M' → mI M' 12 0 60 = mI M 12 0 60 → PsM M' B n (eb (uS B n s) fun r => .ok r.1) → (∀ r, uS B n s = .ok r → CdM M' q (C ++ [r.2])) → K none M') : CallS Ω true m_MD_unit [vR (some (12, 0))] M K := by
  have hr := h.2.1.1
  have h5 := hr.1
  have hkd := tkK_kd B n s.1
  have hlt := tkK_lt B n s.1
  refine call_go (hJL rfl) (Nat.le_of_ble_eq_true rfl) (go_wp ok_MD_unit [] 250 _ _ _ _ _ _ ?_)
  conv => whnf
  refine cl_use (fun K h' => c_MD_is Ω M B n 3 2 _ K rfl (by decide) rfl h h') trivial ?_
  refine br_bz (fun c => ?_) (fun c => ?_)
  · have c : ¬ tkK B n s.1 = 3 := of_decide_eq_false c
    conv => whnf
    refine And.intro (fun z => absurd h.2.2.2.1 z) (fun _ => ?_)
    conv => whnf
    rw [h.2.2.1]
    refine And.intro (vp_in_nI (by omega) (by decide)) ?_
    rw [nI_clamp (by omega), (h.1 s.1 hr).1]
    have hno : ¬ (214 ≤ tkK B n s.1 ∧ tkK B n s.1 ≤ 221) → CallS Ω true m_MD_fail [vR (some (12, 0)), vI (nI 1)] M (fun r M' => r = none ∧ K none M') := fun c2 => by
      refine c_MD_fail Ω M B n 1 (.ok s) _ (Or.inl rfl) h (fun M' a b => ⟨rfl, ?_⟩)
      have eu : uS B n s = .error (1, s.1) := by
        unfold uS tkS
        rw [if_neg c2, if_neg c]
        rfl
      refine hK M' (a.mono wUx_me) (a.I rfl) ?_ (fun r hr => ?_)
      · rw [eu]; exact b
      · rw [eu] at hr; cases hr
    have mkv : mkK (tkK B n s.1) < 222 := mkK_lt _ hlt
    have m34 := (mk_34 _ hlt hkd).1
    refine And.intro (fun z => ?_) (fun z => ?_)
    · have z : nI (mkK (tkK B n s.1)) < nI 34 := z
      rw [nI_ltI (by omega) (by omega)] at z
      conv => whnf
      refine ⟨_, hno (fun y => by have := m34.mpr y; omega), trivial, ?_⟩
      rintro r M1 ⟨rfl, g⟩
      conv => whnf
      exact g
    · have z : ¬ nI (mkK (tkK B n s.1)) < nI 34 := z
      rw [nI_ltI (by omega) (by omega)] at z
      conv => whnf
      rw [h.2.2.1]
      refine And.intro (vp_in_nI (by omega) (by decide)) ?_
      rw [nI_clamp (by omega), (h.1 s.1 hr).1]
      refine And.intro (fun y => ?_) (fun y => ?_)
      · have y : nI 41 < nI (mkK (tkK B n s.1)) := y
        rw [nI_ltI (by omega) (by omega)] at y
        conv => whnf
        refine ⟨_, hno (fun y => by have := m34.mpr y; omega), trivial, ?_⟩
        rintro r M1 ⟨rfl, g⟩
        conv => whnf
        exact g
      · have y : ¬ nI 41 < nI (mkK (tkK B n s.1)) := y
        rw [nI_ltI (by omega) (by omega)] at y
        have c2 := m34.mp ⟨by omega, by omega⟩
        have m2 := (mk_34 _ hlt hkd).2 c2.1 c2.2
        conv => whnf
        rw [h.2.2.1]
        refine And.intro (vp_in_nI (by omega) (by decide)) ?_
        rw [nI_clamp (by omega), (h.1 s.1 hr).1]
        conv => whnf
        rw [show (34 : Int32) = nI 34 from rfl, pk_sub (by omega), show mkK (tkK B n s.1) - 34 = tkK B n s.1 - 214 by omega]
        have hCd := hC.snoc (k := 1) (v := nI (tkK B n s.1 - 214))
        have hUe := wCd_emit (M := M) (k := nI 1) (v := nI (tkK B n s.1 - 214)) (x := nI (q + C.length + 1)) (Nat.le_add_right q C.length) hq
        refine ⟨fun r M' => r = none ∧ M' = sI (sI (sI M 107 0 (q + C.length) (nI 1)) 108 0 (q + C.length) (nI (tkK B n s.1 - 214))) 12 0 55 (nI (q + C.length + 1)), c_MD_emit Ω M (q + C.length) (nI 1) _ _ (by omega) hC.1 ⟨rfl, rfl⟩, trivial, ?_⟩
        rintro r M1 ⟨rfl, rfl⟩
        conv => whnf
        have h60 : mI (sI (sI (sI M 107 0 (q + C.length) (nI 1)) 108 0 (q + C.length) (nI (tkK B n s.1 - 214))) 12 0 55 (nI (q + C.length + 1))) 12 0 60 = mI M 12 0 60 := (mI_st rfl).trans ((mI_ne rfl).trans (mI_ne rfl))
        generalize sI (sI (sI M 107 0 (q + C.length) (nI 1)) 108 0 (q + C.length) (nI (tkK B n s.1 - 214))) 12 0 55 (nI (q + C.length + 1)) = M1 at hCd hUe h60
        refine ⟨fun r M' => r = none ∧ Un wMe M1 M' ∧ PsM M' B n (tkS B n (tkK B n s.1) s), c_MD_goesOn Ω M1 B n s _ (by omega) (h.cd hUe) (fun M' a b => ⟨rfl, a, by rw [gn_tk rfl]; exact b⟩), trivial, ?_⟩
        rintro r M2 ⟨rfl, U2, P2⟩
        conv => whnf
        have eu : uS B n s = eb (tkS B n (tkK B n s.1) s) fun s' => .ok (s', (1, nI (tkK B n s.1 - 214))) := by unfold uS; rw [if_pos c2]
        refine hK M2 ((hUe.mono wUx_cd).trans (U2.mono wUx_me)) ((U2.I rfl).trans h60) ?_ (fun r hr => ?_)
        · rw [eu, eb_pr, eb_id]
          exact P2
        · rw [eu] at hr
          obtain ⟨s', g1, g2⟩ := eb_ok hr
          cases g2
          exact hCd.me U2
  · have c : tkK B n s.1 = 3 := of_decide_eq_true c
    conv => whnf
    rw [h.2.2.1]
    refine And.intro (vp_in_nI (by omega) (by decide)) ?_
    rw [nI_clamp (by omega)]
    have hv : mI M 71 0 s.1 = (tkV B n s.1).toInt32 := by
      have := (h.1 s.1 hr).2.2.1 c
      rw [← this, Int32.toInt32_toInt64]
    rw [hv]
    conv => whnf
    have hCd := hC.snoc (k := 0) (v := (tkV B n s.1).toInt32)
    have hUe := wCd_emit (M := M) (k := nI 0) (v := (tkV B n s.1).toInt32) (x := nI (q + C.length + 1)) (Nat.le_add_right q C.length) hq
    refine ⟨fun r M' => r = none ∧ M' = sI (sI (sI M 107 0 (q + C.length) (nI 0)) 108 0 (q + C.length) (tkV B n s.1).toInt32) 12 0 55 (nI (q + C.length + 1)), c_MD_emit Ω M (q + C.length) (nI 0) _ _ (by omega) hC.1 ⟨rfl, rfl⟩, trivial, ?_⟩
    rintro r M1 ⟨rfl, rfl⟩
    conv => whnf
    have h60 : mI (sI (sI (sI M 107 0 (q + C.length) (nI 0)) 108 0 (q + C.length) (tkV B n s.1).toInt32) 12 0 55 (nI (q + C.length + 1))) 12 0 60 = mI M 12 0 60 := (mI_st rfl).trans ((mI_ne rfl).trans (mI_ne rfl))
    generalize sI (sI (sI M 107 0 (q + C.length) (nI 0)) 108 0 (q + C.length) (tkV B n s.1).toInt32) 12 0 55 (nI (q + C.length + 1)) = M1 at hCd hUe h60
    refine ⟨fun r M' => r = none ∧ Un wMe M1 M' ∧ PsM M' B n (tkS B n 3 s), c_MD_goesOn Ω M1 B n s _ (by omega) (h.cd hUe) (fun M' a b => ⟨rfl, a, by rw [gn_tk c]; exact b⟩), trivial, ?_⟩
    rintro r M2 ⟨rfl, U2, P2⟩
    conv => whnf
    have eu : uS B n s = eb (tkS B n 3 s) fun s' => .ok (s', (0, (tkV B n s'.2.1).toInt32)) := by unfold uS; rw [if_neg (by omega)]
    refine hK M2 ((hUe.mono wUx_cd).trans (U2.mono wUx_me)) ((U2.I rfl).trans h60) ?_ (fun r hr => ?_)
    · rw [eu, eb_pr, eb_id]
      exact P2
    · rw [eu] at hr
      obtain ⟨s', g1, g2⟩ := eb_ok hr
      obtain ⟨_, _, rfl⟩ := tkS_ok g1
      cases g2
      exact hCd.me U2
