/-! FROM REST, in both -/
/-- a wing asked from rest, in still air -/
def evR (T : Tx) (w : Nat) (v s : Int32) (ha : Nat → Int32) : Ev := (T, w, v, nI 0, bsS T w s ha (fun _ => 0), fun _ => 0)
theorem evR_ok {T : Tx} {w : Nat} {v s : Int32} {ha : Nat → Int32} (hW : WgOK T w) : EvOK (evR T w v s ha) := ⟨hW, 0, by decide, rfl⟩
theorem hxS0 (h : Nat → Int32) : hxS 0 h = fun _ => 0 := funext fun _ => if_pos rfl
def z0 : Nat → Int64 := fun _ => 0
theorem z0_bd {n : Nat} : GB n z0 := GB0
/-- the model stands, rests and goes its rounds -/
theorem mr3 (Ω : Om) (M : Mem) (p w : Nat) (v s bh : Int32) (ha : Nat → Int32) (hp : p < 4) (hw4 : w < 4) (hW : WgOK (pg M p) w) (hbh : bh = 0 ∨ bh = 1) (hha : hxS bh (pg M p 83) = ha) (N : Mem → Prop)
    (hN : ∀ M', Un wM M M' → Un wX M M' → (¬ rnR (evR (pg M p) w v s ha) z0 = -2 → MF M' (wN (pg M p) w) (rnG (evR (pg M p) w v s ha) z0) (dnS (evR (pg M p) w v s ha) (rnG (evR (pg M p) w v s ha) z0)) (bnS (evR (pg M p) w v s ha) (rnG (evR (pg M p) w v s ha) z0)) (anS (evR (pg M p) w v s ha) (rnG (evR (pg M p) w v s ha) z0))) → mI M' 12 0 71 = nI (4 * p + w) → mI M' 12 0 72 = nI (wN (pg M p) w) → mI M' 12 0 73 = v → N M') :
    ∃ K0 : Ka, CallS Ω true m_MD_stands [vR (some (12, 0)), vI (nI (4 * p + w)), vI v, vI s, vI bh, vI 0] M K0 ∧ True ∧ ∀ r M1, K0 r M1 → r = none ∧
    ∃ K1 : Ka, CallS Ω true m_MD_rests [vR (some (12, 0))] M1 K1 ∧ True ∧ ∀ r M2, K1 r M2 → r = none ∧
    (∃ K2 : Ka, CallS Ω true m_MD_rounds [vR (some (12, 0))] M2 K2 ∧ True ∧ ∀ r M3, K2 r M3 → r = some (vI (rnR (evR (pg M p) w v s ha) z0)) ∧ N M3) := by
  have hn3 := hW.n.2.2.1
  refine ⟨fun r M' => r = none ∧ Un wSt M M' ∧ ME M' p (evR (pg M p) w v s ha), c_MD_stands Ω M p w v s bh 0 _ hp hw4 hW hbh (Or.inl rfl) (fun M' p1 p2 p3 _ _ _ _ _ => ⟨rfl, p1, ?_⟩), trivial, ?_⟩
  · rw [hha, hxS0] at p2
    exact p2
  rintro r M1 ⟨rfl, hU1, hE1⟩
  refine ⟨rfl, fun r M' => r = none ∧ Un wGm M1 M' ∧ (∀ i, i < 10 → mJ M' 113 0 i = 0), c_MD_rests Ω M1 _ (fun M' a b => ⟨rfl, a, b⟩), trivial, ?_⟩
  rintro r M2 ⟨rfl, hU2, h113⟩
  have hE2 := hE1.un (hU2.mono wGm_rm)
  refine ⟨rfl, fun r M' => r = some (vI (rnR (evR (pg M p) w v s ha) z0)) ∧ Un wRm M2 M' ∧ (¬ rnR (evR (pg M p) w v s ha) z0 = -2 → MF M' (wN (pg M p) w) (rnG (evR (pg M p) w v s ha) z0) (dnS (evR (pg M p) w v s ha) (rnG (evR (pg M p) w v s ha) z0)) (bnS (evR (pg M p) w v s ha) (rnG (evR (pg M p) w v s ha) z0)) (anS (evR (pg M p) w v s ha) (rnG (evR (pg M p) w v s ha) z0))), c_MD_rounds Ω M2 p (evR (pg M p) w v s ha) z0 _ hE2 (evR_ok hW) (fun i hi => h113 i (by have : i < wN (pg M p) w := hi; omega)) (fun M' a b => ⟨rfl, a, b⟩), trivial, ?_⟩
  rintro r M3 ⟨rfl, hU3, hF⟩
  have hE3 := hE2.un hU3
  exact ⟨rfl, hN M3 (((hU1.mono (wM_of mM_St)).trans (hU2.mono (wM_of mM_Gm))).trans (hU3.mono (wM_of mM_Rm))) (((hU1.mono sc_St).trans (hU2.mono sc_Gm)).trans (hU3.mono sc_Rm)) hF hE3.2.1 hE3.2.2.1 hE3.2.2.2.1⟩
theorem sm_bd {g : Nat → Int64} {n : Nat} (hg : GB n g) : ∀ j, j ≤ n → j ≤ 10 → -(8991 * (j : Int)) ≤ (sm g j).toInt ∧ (sm g j).toInt ≤ 8991 * (j : Int) := by
  intro j
  induction j with
  | zero =>
    intro _ _
    rw [show sm g 0 = 0 from rfl, show (0 : Int64).toInt = 0 from rfl]
    omega
  | succ j ih =>
    intro h1 h2
    have := ih (by omega) (by omega)
    have h3 := hg j (by omega)
    rw [sm, J_add (by omega)]
    omega
theorem li_bd {g : Nat → Int64} {n : Nat} {v : Int32} (hn : n ≤ 10) (hg : GB n g) (hv : 1 ≤ v.toInt ∧ v.toInt ≤ 40) : -1500000 ≤ (liS n v g).toInt ∧ (liS n v g).toInt ≤ 1500000 := by
  have h1 := sm_bd hg n (Nat.le_refl _) hn
  have h2 : -89910 ≤ (sm g n).toInt ∧ (sm g n).toInt ≤ 89910 := by omega
  have mul : ∀ (a b B : Int), -B ≤ a → a ≤ B → 1 ≤ b → b ≤ 40 → 0 ≤ B → -(B * 40) ≤ a * b ∧ a * b ≤ B * 40 := by
    intro a b B a1 a2 b1 b2 hB
    have q1 : a * b ≤ B * b := Int.mul_le_mul_of_nonneg_right a2 (by omega)
    have q2 : -B * b ≤ a * b := Int.mul_le_mul_of_nonneg_right a1 (by omega)
    have q3 : B * b ≤ B * 40 := Int.mul_le_mul_of_nonneg_left b2 hB
    rw [Int.neg_mul] at q2
    omega
  have e1 := mul (sm g n).toInt v.toInt 89910 h2.1 h2.2 hv.1 hv.2 (by omega)
  have m1 : (sm g n * v.toInt64).toInt = (sm g n).toInt * v.toInt := by rw [J_mul (by rw [I_l]; omega), I_l]
  have e2 := mul ((sm g n).toInt * v.toInt) v.toInt (89910 * 40) e1.1 e1.2 hv.1 hv.2 (by omega)
  have m2 : (sm g n * v.toInt64 * v.toInt64).toInt = (sm g n).toInt * v.toInt * v.toInt := by rw [J_mul (by rw [m1, I_l]; omega), m1, I_l]
  have m3 : (liS n v g).toInt = ((sm g n).toInt * v.toInt * v.toInt).tdiv 100 := by
    show (sm g n * v.toInt64 * v.toInt64 / 100).toInt = _
    rw [J_div (by rw [m2]; omega), m2]
    rfl
  rw [m3]
  generalize (sm g n).toInt * v.toInt * v.toInt = X at e2
  rcases Int.le_total 0 X with hX | hX
  · rw [Int.tdiv_eq_ediv_of_nonneg hX]; omega
  · have : X.tdiv 100 = -((-X) / 100) := by
      rw [show X = -(-X) by omega, Int.neg_tdiv, Int.tdiv_eq_ediv_of_nonneg (by omega)]
      simp
    rw [this]; omega
/-- LIFT from rest -/
def rL (T : Tx) (w : Nat) (v s : Int32) (ha : Nat → Int32) : Int64 := rlS (evR T w v s ha)
theorem rL_no {T : Tx} {w : Nat} {v s : Int32} {ha : Nat → Int32} (hW : WgOK T w) (hv : 1 ≤ v.toInt ∧ v.toInt ≤ 40) : rL T w v s ha = -1000000000000 ↔ rnR (evR T w v s ha) z0 = -2 := by
  have hb := li_bd (v := v) hW.n.2.2.1 (rn_bd (E := evR T w v s ha) hW 120 1 z0 z0_bd) hv
  unfold rL rlS
  constructor
  · intro h
    refine Decidable.byContradiction (fun z => ?_)
    rw [if_neg (show ¬ (rnS (evR T w v s ha) 120 1 (fun _ => 0)).1 = -2 from z)] at h
    have h3 : (liS (wN T w) v (rnS (evR T w v s ha) 120 1 z0).2).toInt = (-1000000000000 : Int64).toInt := congrArg Int64.toInt h
    have hb : -1500000 ≤ (liS (wN T w) v (rnS (evR T w v s ha) 120 1 z0).2).toInt ∧ (liS (wN T w) v (rnS (evR T w v s ha) 120 1 z0).2).toInt ≤ 1500000 := hb
    rw [h3, show (-1000000000000 : Int64).toInt = -1000000000000 from rfl] at hb
    omega
  · intro h
    exact if_pos h
theorem rL_yes {T : Tx} {w : Nat} {v s : Int32} {ha : Nat → Int32} (h : ¬ rnR (evR T w v s ha) z0 = -2) : rL T w v s ha = liS (wN T w) v (rnG (evR T w v s ha) z0) := if_neg h
theorem c_restL (Ω : Om) (M : Mem) (t w hk hi : Nat) (T : Tx) (v s : Int32) (ha : Nat → Int32) (K : Ka) (hW : WgOK T w) (hC : ClW M t w T) (hL : ClS M t w T) (hS : Sta M)
    (kh : kd (oN Ω) hk = .inr (0, 4)) (wh : ∀ s, wSo hk hi s = false) (eh : ∀ h, h < 4 → mI M hk hi h = ha h)
    (hK : ∀ M', Un wSo M M' → K (some (vJ (rL T w v s ha))) M') :
    CallS Ω true m_Solver_restLift [vR (some (6, 0)), vR (some (7, t)), vR (some (10, 4 * t + w)), vI v, vI s, vR (some (hk, hi))] M K :=
  c_restLift Ω M t w hk hi T v s ha K hW hC hL hS.2.2.1 kh wh eh hS.1 hK
