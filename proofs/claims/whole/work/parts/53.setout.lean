/-! THE CLASS'S SOLVER SET OUT -/
/-- the angle of a strip that no air turns -/
def bsS (T : Tx) (w : Nat) (s : Int32) (ha gu : Nat → Int32) (i : Nat) : Int32 := s + T 95 (10 * w + i) + (if T 96 (10 * w + i) = -1 then 0 else ha (T 96 (10 * w + i)).toNatClampNeg) + gu i
theorem z_div (x : Int64) : (0 : Int64) / x = 0 := Int64.zero_div
theorem c_setOut (Ω : Om) (M : Mem) (t w hk hi gk : Nat) (T : Tx) (v s : Int32) (ha gu : Nat → Int32) (K : Ka) (hW : WgOK T w) (hC : ClW M t w T) (hL : ClS M t w T) (hSh : ∀ j, j < 10 → mI M 142 0 j = shT j)
    (kh : kd (oN Ω) hk = .inr (0, 4)) (kg : kd (oN Ω) gk = .inr (0, 10)) (wh : ∀ s, wSo hk hi s = false) (wg : ∀ s, wSo gk 0 s = false) (eh : ∀ h, h < 4 → mI M hk hi h = ha h) (eg_ : ∀ i, i < 10 → mI M gk 0 i = gu i)
    (hK : ∀ M', Un wSo M M' → CE M' t (T, w, v, 0, bsS T w s ha gu, fun _ => 0) → (∀ i, i < 10 → mJ M' 23 0 i = 0) → (∀ i, i < wN T w → mI M' 38 0 i = T 95 (10 * w + i)) → (∀ i, i < 10 → mJ M' 40 0 i = 0) → K none M') :
    CallS Ω true m_Solver_setOut [vR (some (6, 0)), vR (some (7, t)), vR (some (10, 4 * t + w)), vI v, vI s, vR (some (hk, hi)), vR (some (gk, 0))] M K := by
  obtain ⟨hn1, hn2, hn3, hst⟩ := hW.n
  refine call_go (hJL rfl) (Nat.le_of_ble_eq_true rfl) (go_wp ok_Solver_setOut [38] 250 _ _ _ _ _ _ ?_)
  conv => whnf
  generalize hM1 : sI (sR (sR M 6 0 6 (some (7, t))) 6 0 7 (some (10, 4 * t + w))) 6 0 8 0 = M1
  have hU1 : Un wSo M M1 := by rw [← hM1]; exact ((Un.rfl.pR rfl).pR rfl).pI rfl
  have h66 : mR M1 6 0 6 = some (7, t) := by
    rw [← hM1, mR_sI, mR_sR, if_neg (fun q => absurd q.2.2 (by decide)), mR_sR, if_pos ⟨rfl, rfl, rfl⟩]
  have h67 : mR M1 6 0 7 = some (10, 4 * t + w) := by
    rw [← hM1, mR_sI, mR_sR, if_pos ⟨rfl, rfl, rfl⟩]
  have h68 : mI M1 6 0 8 = 0 := by
    rw [← hM1, mI_sI, if_pos ⟨rfl, rfl, rfl⟩]
  have e10 : mI M1 10 (4 * t + w) 0 = nI (wN T w) := ((hU1.I rfl).trans hC.1).trans hn1
  clear hM1
  rw [e10]
  refine ⟨fun r M' => r = none ∧ Un (wFl 0) M1 M' ∧ (∀ i, i < 10 → mJ M' 23 0 i = 0) ∧ mI M' 2 0 4 = nI (wN T w) ∧ mI M' 2 0 5 = v, c_rest Ω M1 0 (nI (wN T w)) v _ (fun M' a b c d e => ⟨rfl, a, b, c.trans (if_neg (show ¬ (10 : Int32) < nI (wN T w) from nI_nlt (a := 10) hn3 (by decide))), d⟩), trivial, ?_⟩
  rintro r M2 ⟨rfl, hU2, h23, h24, h25⟩
  have hU2' : Un wSo M M2 := hU1.trans (hU2.mono wSo_fl)
  conv => whnf
  refine cl_use (fun K h => c_fillJ Ω true M2 40 0 10 0 K rfl (by decide) h) trivial ?_
  conv => whnf
  have hU3 : Un wSo M (sFillJ M2 40 0 10 0) := hU2'.fJ (fun _ => rfl)
  refine loopN (wN T w) (fun i M3 => Un wSo M M3 ∧ (mR M3 6 0 6 = some (7, t) ∧ mR M3 6 0 7 = some (10, 4 * t + w) ∧ mI M3 6 0 8 = 0 ∧ mI M3 2 0 4 = nI (wN T w) ∧ mI M3 2 0 5 = v ∧ (∀ i, i < 10 → mJ M3 23 0 i = 0) ∧ (∀ i, i < 10 → mJ M3 40 0 i = 0)) ∧ ∀ i', i' < i → mJ M3 39 0 i' = (bsS T w s ha gu i').toInt64 ∧ mI M3 38 0 i' = T 95 (10 * w + i'))
    (fun i M3 => ∀ r8 r9 : Option Vl, GoS Ω true m_Solver_setOut K 38 [some (vR (some (6, 0))), some (vR (some (7, t))), some (vR (some (10, 4 * t + w))), some (vI v), some (vI s), some (vR (some (hk, hi))), some (vR (some (gk, 0))), some (vI (nI i)), r8, r9] [] M3 0 0) ?_ ?_ 0 _ (Nat.zero_le _) ⟨hU3, ⟨(hU2.R rfl).trans h66, (hU2.R rfl).trans h67, (hU2.I rfl).trans h68, h24, h25, fun i hi => ?_, fun i hi => ?_⟩, fun i' h => absurd h (Nat.not_lt_zero _)⟩ none none
  · rintro i M3 hi' ⟨hU, ⟨f1, f2, f3, f4, f5, f6, f7⟩, hA⟩ hN r8 r9
    have hw := hC.2.2.2.2.1 i hi'
    have e61 : mI M3 61 (4 * t + w) i = T 96 (10 * w + i) := (hU.I rfl).trans hw.2.2.2.2
    have e60 : mI M3 60 (4 * t + w) i = T 95 (10 * w + i) := (hU.I rfl).trans hw.2.2.2.1
    obtain ⟨-, -, -, -, hhin⟩ := hst i hi'
    refine go_wp ok_Solver_setOut [89] 250 _ _ _ _ _ _ ?_
    refine And.intro (fun a => ?_) (fun _ => ?_)
    · rw [f4, nI_leI (by omega) (by omega)] at a; omega
    conv => whnf
    rw [kg]
    refine And.intro (fun a => absurd a (nI_ge (b := 10) (by omega) (by decide))) (fun _ => ?_)
    conv => whnf
    refine And.intro (vp_in_nI (by omega) (by decide)) ?_
    rw [nI_clamp (by omega), e61]
    have rest : ∀ x : Int32, x = (if T 96 (10 * w + i) = -1 then 0 else ha (T 96 (10 * w + i)).toNatClampNeg) → GoS Ω true m_Solver_setOut K 89 [some (vR (some (6, 0))), some (vR (some (7, t))), some (vR (some (10, 4 * t + w))), some (vI v), some (vI s), some (vR (some (hk, hi))), some (vR (some (gk, 0))), some (vI (nI i)), some (vI (T 96 (10 * w + i))), r9] [vI x] M3 0 0 := by
      intro x hx
      refine go_wp ok_Solver_setOut [38] 250 _ _ _ _ _ _ ?_
      conv => whnf
      refine And.intro (vp_in_nI (by omega) (by decide)) ?_
      conv => whnf
      refine And.intro (vp_in_nI (by omega) (by decide)) ?_
      rw [nI_clamp (by omega), e60]
      conv => whnf
      refine And.intro (vp_in_nI (by omega) (by decide)) ?_
      rw [nI_clamp (by omega), mI_sI, if_pos ⟨rfl, rfl, rfl⟩]
      conv => whnf
      rw [kg]
      refine And.intro (vp_in_nI (by omega) (by decide)) ?_
      have hU' : Un wSo M (sI M3 38 0 i (T 95 (10 * w + i))) := hU.pI rfl
      rw [nI_clamp (by omega), hU'.I (wg i), eg_ i (by omega), hx]
      conv => whnf
      refine And.intro (vp_in_nI (by omega) (by decide)) ?_
      rw [nI_clamp (by omega)]
      have := hN (sJ (sI M3 38 0 i (T 95 (10 * w + i))) 39 0 i (bsS T w s ha gu i).toInt64) ⟨hU'.pJ rfl, ⟨f1, f2, f3, f4, f5, f6, f7⟩, fun i' h' => ?_⟩ (some (vI (T 96 (10 * w + i)))) (some (vI x))
      · rw [← nI_1, bsS, hx] at this
        exact this
      · rw [mJ_sJ, mI_sJ, mI_sI]
        by_cases e : i' = i
        · rw [if_pos ⟨rfl, rfl, e⟩, if_pos ⟨rfl, rfl, e⟩, e]; exact ⟨rfl, rfl⟩
        · rw [if_neg (fun q => e q.2.2), if_neg (fun q => e q.2.2)]
          exact hA i' (by omega)
    conv => whnf
    refine And.intro (fun z => ?_) (fun z => ?_)
    · conv => whnf
      refine rest 0 ?_
      rcases hhin with e | ⟨h, h4, e⟩
      · rw [if_pos e]
      · rw [e] at z; exact absurd z (nI_pos (by omega))
    · rcases hhin with e | ⟨h, h4, e⟩
      · rw [e] at z; exact absurd (by decide) z
      conv => whnf
      rw [kh]
      refine And.intro (fun z2 => ?_) (fun z2 => ?_)
      · rw [e] at z2; exact absurd z2 (nI_ge (b := 4) (by omega) (by decide))
      conv => whnf
      rw [kh]
      refine And.intro (by rw [e]; exact vp_in_nI (by omega) (by decide)) ?_
      refine rest _ ?_
      rw [if_neg (by rw [e]; exact nI_nm1 (by omega)), e, nI_clamp (by omega), hU.I (wh h), eh h h4]
  · rintro M3 ⟨hU, ⟨f1, f2, f3, f4, f5, f6, f7⟩, hA⟩ r8 r9
    refine go_wp ok_Solver_setOut [] 250 _ _ _ _ _ _ ?_
    refine And.intro (fun _ => ?_) (fun a => ?_)
    · refine hK M3 hU ⟨f1, f2, f3, f4, f5, fun i hi => (hA i hi).1, fun i hi => ?_, ?_, ?_, fun j hj => (hU.I rfl).trans (hSh j hj)⟩ f6 (fun i hi => (hA i hi).2) f7
      · show _ = (0 : Int64) / _
        rw [z_div]
        have : i < wN T w := hi
        exact f7 i (by omega)
      · exact hC.un hU (fun _ _ => rfl) (fun k i s h1 h2 => by simp [wSo, nb_d, nl_d]; omega)
      · exact fun i hi k hk q => (hL i hi k hk q).un hU (fun _ _ => rfl) (fun _ _ => rfl) (fun _ _ => rfl)
    · rw [f4, nI_leI (by omega) (by omega)] at a; omega
  · rw [mJ_fillJ, if_neg (fun q => absurd q.1 (by decide))]; exact h23 i hi
  · rw [mJ_fillJ, if_pos ⟨rfl, rfl, hi⟩]
theorem od_l {x : Int32} (h : -100 ≤ x.toInt ∧ x.toInt ≤ 100) : (2 * x + 1).toInt64 = 2 * x.toInt64 + 1 := by
  have e1 : ((2 : Int32) * x).toInt = 2 * x.toInt := by rw [I_mul (by rw [show (2 : Int32).toInt = 2 from rfl]; omega)]; rfl
  have e2 : ((2 : Int64) * x.toInt64).toInt = 2 * x.toInt := by rw [J_mul (by rw [I_l, show (2 : Int64).toInt = 2 from rfl]; omega), I_l]; rfl
  apply Int64.toInt_inj.mp
  rw [I_l, I_add (by rw [e1, show (1 : Int32).toInt = 1 from rfl]; omega), e1, J_add (by rw [e2, show (1 : Int64).toInt = 1 from rfl]; omega), e2]
  rfl
theorem od_d {i k : Nat} {off : Int32} (hi : i < 10) (hk : k < 11) (ho : -20 ≤ off.toInt ∧ off.toInt ≤ 20) : (2 * (nI i - nI k - off) + 1).toInt64 = 2 * (nI i - nI k - off).toInt64 + 1 := by
  refine od_l ?_
  have e1 : (nI i - nI k).toInt = (i : Int) - k := pk_sub_toInt (by omega) (by omega)
  rw [I_sub (by rw [e1]; omega), e1]
  omega
def wWa (k _i _s : Nat) : Bool := Nat.beq k 40
theorem c_comeBehind (Ω : Om) (M : Mem) (t w f m : Nat) (dp off : Int32) (n : Nat) (lg : Nat → Int64) (K : Ka) (hn : n ≤ 10) (hm : m ≤ 10) (ho : -20 ≤ off.toInt ∧ off.toInt ≤ 20) (h67 : mR M 6 0 7 = some (10, 4 * t + w)) (hs : mI M 2 0 4 = nI n) (hd : mI M 10 (4 * t + w) 6 = dp) (hd0 : ¬ (14549535 : Int64) * dp.toInt64 = 0) (hf : mI M 2 f 4 = nI m) (hG : ∀ i, i < m → mJ M 23 f i = lg i)
    (hK : ∀ M', Un wWa M M' → (∀ i, i < n → mJ M' 40 0 i = aHd lg m off i (m + 1) / (14549535 * dp.toInt64)) → K none M') : CallS Ω true m_Solver_comeBehind [vR (some (6, 0)), vR (some (2, f)), vI off] M K := by
  refine call_go (hJL rfl) (Nat.le_of_ble_eq_true rfl) (go_wp ok_Solver_comeBehind [10] 250 _ _ _ _ _ _ ?_)
  conv => whnf
  rw [show rR true M 6 0 7 = some (10, 4 * t + w) from h67]
  conv => whnf
  refine loopN n (fun i M2 => Un wWa M M2 ∧ ∀ i', i' < i → mJ M2 40 0 i' = aHd lg m off i' (m + 1) / (14549535 * dp.toInt64))
    (fun i M2 => ∀ r4 r5 r6 : Option Vl, GoS Ω true m_Solver_comeBehind K 10 [some (vR (some (6, 0))), some (vR (some (2, f))), some (vI off), some (vI (nI i)), r4, r5, r6] [] M2 0 0) ?_ ?_ 0 M (Nat.zero_le _) ⟨Un.rfl, fun i' h => absurd h (Nat.not_lt_zero _)⟩ none none none
  · rintro i M2 hi ⟨hU, hA⟩ hN r4 r5 r6
    have hs2 : mI M2 2 0 4 = nI n := (hU.I rfl).trans hs
    have hf2 : mI M2 2 f 4 = nI m := (hU.I rfl).trans hf
    refine go_wp ok_Solver_comeBehind [27] 250 _ _ _ _ _ _ ?_
    refine And.intro (fun a => ?_) (fun _ => ?_)
    · rw [hs2, nI_leI (by omega) (by omega)] at a; omega
    conv => whnf
    refine upN (m + 1) (fun k => GoS Ω true m_Solver_comeBehind K 27 [some (vR (some (6, 0))), some (vR (some (2, f))), some (vI off), some (vI (nI i)), some (vJ (aHd lg m off i k)), none, some (vI (nI k))] [] M2 0 0) ?_ ?_ 0 (Nat.zero_le _)
    · intro k hk hN
      refine go_wp ok_Solver_comeBehind [27] 250 _ _ _ _ _ _ ?_
      refine And.intro (fun a => ?_) (fun _ => ?_)
      · rw [hf2, nI_ltI (by omega) (by omega)] at a; omega
      conv => whnf
      refine cl_use (fun K h => c_edgeAt Ω M2 f m k lg K hm (by omega) hf2 (fun i hi => (hU.J rfl).trans (hG i hi)) h) trivial ?_
      conv => whnf
      rw [od_d (show i < 10 by omega) (show k < 11 by omega) ho]
      refine cl_use (fun K h => c_WH_over Ω M2 _ _ K h) trivial ?_
      conv => whnf
      rw [ovS, if_neg (od_ne _)]
      rw [aHd_s, ← nI_1] at hN
      exact hN
    · refine go_wp ok_Solver_comeBehind [10] 250 _ _ _ _ _ _ ?_
      refine And.intro (fun _ => ?_) (fun a => ?_)
      · conv => whnf
        rw [show rR true M2 6 0 7 = some (10, 4 * t + w) from (hU.R rfl).trans h67]
        conv => whnf
        rw [(hU.I (k := 10) rfl).trans hd]
        refine cl_use (fun K h => c_WH_over Ω M2 _ _ K h) trivial ?_
        conv => whnf
        refine And.intro (vp_in_nI (by omega) (by decide)) ?_
        rw [nI_clamp (by omega), ovS, if_neg hd0]
        have := hN (sJ M2 40 0 i (aHd lg m off i (m + 1) / (14549535 * dp.toInt64))) ⟨hU.pJ rfl, fun i' h' => ?_⟩ (some (vJ (aHd lg m off i (m + 1)))) none (some (vI (nI (m + 1))))
        · rw [← nI_1 i] at this
          exact this
        · rw [mJ_sJ]
          by_cases e : i' = i
          · rw [if_pos ⟨rfl, rfl, e⟩, e]
          · rw [if_neg (fun q => e q.2.2)]; exact hA i' (by omega)
      · rw [hf2, nI_ltI (by omega) (by omega)] at a; omega
  · rintro M2 ⟨hU, hA⟩ r4 r5 r6
    have hs2 : mI M2 2 0 4 = nI n := (hU.I rfl).trans hs
    refine go_wp ok_Solver_comeBehind [] 250 _ _ _ _ _ _ ?_
    refine And.intro (fun _ => hK M2 hU hA) (fun a => ?_)
    rw [hs2, nI_leI (by omega) (by omega)] at a; omega
/-- LIFT from rest, or the word for none -/
def rlS (E : Ev) : Int64 := if (rnS E 120 1 (fun _ => 0)).1 = -2 then -1000000000000 else liS (eN E) (eV E) (rnS E 120 1 (fun _ => 0)).2
theorem GB0 {n : Nat} : GB n (fun _ => 0) := fun _ _ => (show -8991 ≤ (0 : Int64).toInt ∧ (0 : Int64).toInt ≤ 8991 by decide)
theorem c_restLift (Ω : Om) (M : Mem) (t w hk hi : Nat) (T : Tx) (v s : Int32) (ha : Nat → Int32) (K : Ka) (hW : WgOK T w) (hC : ClW M t w T) (hL : ClS M t w T) (hSh : ∀ j, j < 10 → mI M 142 0 j = shT j)
    (kh : kd (oN Ω) hk = .inr (0, 4)) (wh : ∀ s, wSo hk hi s = false) (eh : ∀ h, h < 4 → mI M hk hi h = ha h) (e37 : ∀ i, i < 10 → mI M 37 0 i = 0)
    (hK : ∀ M', Un wSo M M' → K (some (vJ (rlS (T, w, v, 0, bsS T w s ha (fun _ => 0), fun _ => 0)))) M') :
    CallS Ω true m_Solver_restLift [vR (some (6, 0)), vR (some (7, t)), vR (some (10, 4 * t + w)), vI v, vI s, vR (some (hk, hi))] M K := by
  obtain ⟨hn1, hn2, hn3, hst⟩ := hW.n
  refine call_go (hJL rfl) (Nat.le_of_ble_eq_true rfl) (go_wp ok_Solver_restLift [] 250 _ _ _ _ _ _ ?_)
  conv => whnf
  generalize hE : ((T, w, v, 0, bsS T w s ha (fun _ => 0), fun _ => 0) : Ev) = E at hK
  have eW_ : eW E = w := by rw [← hE]; rfl
  have eT_ : eT E = T := by rw [← hE]; rfl
  have hO : EvOK E := ⟨by rw [eW_, eT_]; exact hW, 0, by decide, by rw [← hE]; rfl⟩
  refine ⟨fun r M' => r = none ∧ Un wSo M M' ∧ CE M' t E ∧ (∀ i, i < 10 → mJ M' 23 0 i = 0), c_setOut Ω M t w hk hi 37 T v s ha (fun _ => 0) _ hW hC hL hSh kh rfl wh (fun _ => rfl) eh e37 (fun M' a b c d e => ⟨rfl, a, hE ▸ b, c⟩), trivial, ?_⟩
  rintro r M1 ⟨rfl, hU1, hE1, h23⟩
  conv => whnf
  have hn10 : eN E ≤ 10 := by show wN (eT E) (eW E) ≤ 10; rw [eW_, eT_]; exact hn3
  refine ⟨fun r M' => r = some (vI (rnS E 120 1 (fun _ => 0)).1) ∧ Un wRd M1 M' ∧ (¬ (rnS E 120 1 (fun _ => 0)).1 = -2 → CF M' (eN E) (rnS E 120 1 (fun _ => 0)).2 (dnS E (rnS E 120 1 (fun _ => 0)).2) (bnS E (rnS E 120 1 (fun _ => 0)).2) (anS E (rnS E 120 1 (fun _ => 0)).2)), c_settle Ω M1 t E (fun _ => 0) _ hE1 hO GB0 (fun i hi => h23 i (by omega)) (fun M' a b => ⟨rfl, a, b⟩), trivial, ?_⟩
  rintro r M2 ⟨rfl, hU2, hF⟩
  have hU3 := hU1.trans (hU2.mono wSo_rd)
  conv => whnf
  refine And.intro (fun z => ?_) (fun z => ?_)
  · have hE2 := hE1.un hU2
    conv => whnf
    refine cl_use (fun K h => c_liftNow Ω M2 0 (eN E) (eV E) (rnS E 120 1 (fun _ => 0)).2 K hn10 hE2.2.2.2.1 hE2.2.2.2.2.1 (fun i hi => (hF z i hi).1) h) trivial ?_
    conv => whnf
    have := hK M2 hU3
    rw [rlS, if_neg z] at this
    exact this
  · conv => whnf
    have := hK M2 hU3
    rw [rlS, if_pos z] at this
    exact this
