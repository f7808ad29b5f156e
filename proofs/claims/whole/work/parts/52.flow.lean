/-! FLOWS, and the solver set out: the class's -/
def wFl (f k i _s : Nat) : Bool := (Nat.beq k 2 || (Nat.ble 23 k && Nat.ble k 26)) && Nat.beq i f
def wSo (k i _s : Nat) : Bool := ((Nat.beq k 2 || (Nat.ble 23 k && Nat.ble k 26)) && Nat.beq i 0) || ((Nat.ble 38 k && Nat.ble k 41) || Nat.beq k 6)
theorem wSo_rd : ∀ k i s, wSo k i s = false → wRd k i s = false := by
  intro k i s h
  simp [wSo, wRd, nb_d, nl_d] at h ⊢
  omega
theorem wSo_fl : ∀ k i s, wSo k i s = false → wFl 0 k i s = false := by
  intro k i s h
  simp [wSo, wFl, nb_d, nl_d] at h ⊢
  omega
theorem wFl_t {f k s : Nat} (h : k = 2 ∨ (23 ≤ k ∧ k ≤ 26)) : wFl f k f s = true := by
  simp [wFl, nb_d, nl_d]; omega
theorem c_rest (Ω : Om) (M : Mem) (f : Nat) (a v : Int32) (K : Ka) (hK : ∀ M', Un (wFl f) M M' → (∀ i, i < 10 → mJ M' 23 f i = 0) → mI M' 2 f 4 = (if (10 : Int32) < a then 10 else a) → mI M' 2 f 5 = v → mI M' 2 f 6 = 0 → K none M') : CallS Ω true m_Flow_rest [vR (some (2, f)), vI a, vI v] M K := by
  refine call_go (hJL rfl) (Nat.le_of_ble_eq_true rfl) (go_wp ok_Flow_rest [] 250 _ _ _ _ _ _ ?_)
  conv => whnf
  refine cl_use (fun K h => c_fillJ Ω true M 23 f 10 0 K rfl (by decide) h) trivial ?_
  conv => whnf
  refine And.intro (Or.inl rfl) ?_
  conv => whnf
  refine hK _ ?_ (fun i hi => ?_) ?_ ?_ ?_
  · exact (((Un.rfl.fJ (fun s => wFl_t (by omega))).pI (wFl_t (by omega))).pI (wFl_t (by omega))).pI (wFl_t (by omega))
  · rw [mJ_sI, mJ_sI, mJ_sI, mJ_fillJ, if_pos ⟨rfl, rfl, hi⟩]
  · rw [mI_sI, if_neg (fun q => absurd q.2.2 (by decide)), mI_sI, if_neg (fun q => absurd q.2.2 (by decide)), mI_sI, if_pos ⟨rfl, rfl, rfl⟩]
  · rw [mI_sI, if_neg (fun q => absurd q.2.2 (by decide)), mI_sI, if_pos ⟨rfl, rfl, rfl⟩]
  · rw [mI_sI, if_pos ⟨rfl, rfl, rfl⟩]
theorem cp_ok : (¬ (0 : Int32) < 0 ∧ ¬ (0 : Int32) < 0 ∧ ¬ (10 : Int32) < 0 ∧ (0 : Int32).toNatClampNeg + (10 : Int32).toNatClampNeg ≤ 10 ∧ (0 : Int32).toNatClampNeg + (10 : Int32).toNatClampNeg ≤ 10) := by decide
theorem c_startFrom (Ω : Om) (M : Mem) (f f2 : Nat) (K : Ka) (h : K none (sCpJ M 23 f2 23 f 0 0 10)) : CallS Ω true m_Flow_startFrom [vR (some (2, f)), vR (some (2, f2))] M K := by
  refine call_go (hJL rfl) (Nat.le_of_ble_eq_true rfl) (go_wp ok_Flow_startFrom [] 250 _ _ _ _ _ _ ?_)
  conv => whnf
  refine And.intro cp_ok ?_
  exact h
theorem c_keep (Ω : Om) (M : Mem) (f f2 : Nat) (hne : f2 ≠ f) (K : Ka) (hK : ∀ M', Un (wFl f) M M' → (∀ i, i < 10 → mJ M' 23 f i = mJ M 23 f2 i ∧ mJ M' 24 f i = mJ M 24 f2 i ∧ mJ M' 25 f i = mJ M 25 f2 i ∧ mJ M' 26 f i = mJ M 26 f2 i) → mI M' 2 f 4 = mI M 2 f2 4 → mI M' 2 f 5 = mI M 2 f2 5 → mI M' 2 f 6 = 1 → K none M') : CallS Ω true m_Flow_keep [vR (some (2, f)), vR (some (2, f2))] M K := by
  refine call_go (hJL rfl) (Nat.le_of_ble_eq_true rfl) (go_wp ok_Flow_keep [] 250 _ _ _ _ _ _ ?_)
  conv => whnf
  refine And.intro cp_ok ?_
  conv => whnf
  refine And.intro cp_ok ?_
  conv => whnf
  refine And.intro cp_ok ?_
  conv => whnf
  refine And.intro cp_ok ?_
  conv => whnf
  refine And.intro (Or.inr rfl) ?_
  conv => whnf
  refine hK _ ?_ (fun i hi => ?_) ?_ ?_ ?_
  · refine Un.pI (Un.pI (Un.pI (Un.cp (Un.cp (Un.cp (Un.cp Un.rfl (fun s => ?_)) (fun s => ?_)) (fun s => ?_)) (fun s => ?_)) ?_) ?_) ?_ <;> exact wFl_t (by omega)
  · refine ⟨?_, ?_, ?_, ?_⟩
    · rw [mJ_sI, mJ_sI, mJ_sI]
      refine (mJ_cp _ _ _ _ _ _ _ _ _).trans ((if_neg (fun q => absurd q.1 (by decide))).trans ?_)
      refine (mJ_cp _ _ _ _ _ _ _ _ _).trans ((if_neg (fun q => absurd q.1 (by decide))).trans ?_)
      refine (mJ_cp _ _ _ _ _ _ _ _ _).trans ((if_neg (fun q => absurd q.1 (by decide))).trans ?_)
      exact (mJ_cp _ _ _ _ _ _ _ _ _).trans (if_pos ⟨rfl, rfl, hi⟩)
    · rw [mJ_sI, mJ_sI, mJ_sI]
      refine (mJ_cp _ _ _ _ _ _ _ _ _).trans ((if_neg (fun q => absurd q.1 (by decide))).trans ?_)
      refine (mJ_cp _ _ _ _ _ _ _ _ _).trans ((if_neg (fun q => absurd q.1 (by decide))).trans ?_)
      refine (mJ_cp _ _ _ _ _ _ _ _ _).trans ((if_pos ⟨rfl, rfl, hi⟩).trans ?_)
      exact (mJ_cp _ _ _ _ _ _ _ _ _).trans (if_neg (fun q => absurd q.1 (by decide)))
    · rw [mJ_sI, mJ_sI, mJ_sI]
      refine (mJ_cp _ _ _ _ _ _ _ _ _).trans ((if_neg (fun q => absurd q.1 (by decide))).trans ?_)
      refine (mJ_cp _ _ _ _ _ _ _ _ _).trans ((if_pos ⟨rfl, rfl, hi⟩).trans ?_)
      refine (mJ_cp _ _ _ _ _ _ _ _ _).trans ((if_neg (fun q => absurd q.1 (by decide))).trans ?_)
      exact (mJ_cp _ _ _ _ _ _ _ _ _).trans (if_neg (fun q => absurd q.1 (by decide)))
    · rw [mJ_sI, mJ_sI, mJ_sI]
      refine (mJ_cp _ _ _ _ _ _ _ _ _).trans ((if_pos ⟨rfl, rfl, hi⟩).trans ?_)
      refine (mJ_cp _ _ _ _ _ _ _ _ _).trans ((if_neg (fun q => absurd q.1 (by decide))).trans ?_)
      refine (mJ_cp _ _ _ _ _ _ _ _ _).trans ((if_neg (fun q => absurd q.1 (by decide))).trans ?_)
      exact (mJ_cp _ _ _ _ _ _ _ _ _).trans (if_neg (fun q => absurd q.1 (by decide)))
  · rw [mI_sI, if_neg (fun q => absurd q.2.2 (by decide)), mI_sI, if_neg (fun q => absurd q.2.2 (by decide)), mI_sI, if_pos ⟨rfl, rfl, rfl⟩]
    rfl
  · rw [mI_sI, if_neg (fun q => absurd q.2.2 (by decide)), mI_sI, if_pos ⟨rfl, rfl, rfl⟩]
    refine (mI_sI _ _ _ _ _ _ _ _).trans ((if_neg (fun q => hne q.2.1)).trans ?_)
    rfl
  · rw [mI_sI, if_pos ⟨rfl, rfl, rfl⟩]
theorem c_edgeAt (Ω : Om) (M : Mem) (f m k : Nat) (g : Nat → Int64) (K : Ka) (hm : m ≤ 10) (hk : k ≤ m) (hs : mI M 2 f 4 = nI m) (hG : ∀ i, i < m → mJ M 23 f i = g i) (h : K (some (vJ (eg g m k))) M) : CallS Ω true m_Flow_edgeAt [vR (some (2, f)), vI (nI k)] M K := by
  have second : ∀ x : Int64, x = (if k < m then g k else 0) → GoS Ω true m_Flow_edgeAt K 23 [some (vR (some (2, f))), some (vI (nI k)), some (vJ x), none, none, none] [] M 0 0 := by
    intro x hx
    refine go_wp ok_Flow_edgeAt [] 250 _ _ _ _ _ _ ?_
    refine And.intro (fun a => ?_) (fun a => ?_)
    · rw [show (1 : Int32) = nI 1 from rfl, nI_ltI (by omega) (by omega)] at a
      conv => whnf
      rw [eg, if_neg (show ¬ 0 < k by omega), ← hx] at h
      exact h
    · rw [show (1 : Int32) = nI 1 from rfl, nI_ltI (by omega) (by omega)] at a
      refine And.intro (fun b => ?_) (fun b => ?_)
      · rw [hs, nI_ltI (by omega) (by omega)] at b; omega
      · conv => whnf
        rw [show (1 : Int32) = nI 1 from rfl, pk_sub (by omega)]
        refine And.intro (vp_in_nI (by omega) (by decide)) ?_
        rw [nI_clamp (by omega), hG (k - 1) (by omega)]
        conv => whnf
        rw [eg, if_pos (show 0 < k by omega), ← hx] at h
        exact h
  refine call_go (hJL rfl) (Nat.le_of_ble_eq_true rfl) (go_wp ok_Flow_edgeAt [23] 250 _ _ _ _ _ _ ?_)
  refine And.intro (fun a => absurd a (nI_pos (by omega))) (fun _ => ?_)
  refine And.intro (fun a => ?_) (fun a => ?_)
  · rw [hs, nI_leI (by omega) (by omega)] at a
    conv => whnf
    exact second 0 (if_neg (by omega)).symm
  · rw [hs, nI_leI (by omega) (by omega)] at a
    conv => whnf
    refine And.intro (vp_in_nI (by omega) (by decide)) ?_
    rw [nI_clamp (by omega), hG k (by omega)]
    exact second (g k) (if_pos (by omega)).symm
/-- lift, turn and drag -/
def fcS (x : Int64) (v : Int32) : Int64 := x * v.toInt64 * v.toInt64 / 100
def liS (n : Nat) (v : Int32) (g : Nat → Int64) : Int64 := fcS (sm g n) v
def tuS (n : Nat) (v : Int32) (g : Nat → Int64) : Int64 := fcS (sm (fun i => g i * (2 * (nI i).toInt64 + 1 - (nI n).toInt64)) n) v
def drS (T : Tx) (w n : Nat) (v : Int32) (g d a : Nat → Int64) : Int64 := fcS (sm (fun i => (T 92 (10 * w + i)).toInt64 * lwT T (T 94 (10 * w + i)).toNatClampNeg (a i)) n + sm (fun i => g i * d i) n / 57) v
theorem c_liftNow (Ω : Om) (M : Mem) (f n : Nat) (v : Int32) (g : Nat → Int64) (K : Ka) (hn : n ≤ 10) (hs : mI M 2 f 4 = nI n) (hv : mI M 2 f 5 = v) (hG : ∀ i, i < n → mJ M 23 f i = g i) (h : K (some (vJ (liS n v g))) M) : CallS Ω true m_Flow_liftNow [vR (some (2, f))] M K := by
  refine call_go (hJL rfl) (Nat.le_of_ble_eq_true rfl) (go_wp ok_Flow_liftNow [4] 250 _ _ _ _ _ _ ?_)
  conv => whnf
  refine upN n (fun j => GoS Ω true m_Flow_liftNow K 4 [some (vR (some (2, f))), some (vJ (sm g j)), none, some (vI (nI j))] [] M 0 0) ?_ ?_ 0 (Nat.zero_le _)
  · intro j hj hN
    refine go_wp ok_Flow_liftNow [4] 250 _ _ _ _ _ _ ?_
    refine And.intro (fun a => ?_) (fun _ => ?_)
    · rw [hs, nI_leI (by omega) (by omega)] at a; omega
    conv => whnf
    refine And.intro (vp_in_nI (by omega) (by decide)) ?_
    rw [nI_clamp (by omega), hG j hj]
    rw [sm, ← nI_1] at hN
    exact hN
  · refine go_wp ok_Flow_liftNow [] 250 _ _ _ _ _ _ ?_
    refine And.intro (fun _ => ?_) (fun a => ?_)
    · refine And.intro (show ¬ (100 : Int64) = 0 by decide) ?_
      conv => whnf
      rw [hv]
      exact h
    · rw [hs, nI_leI (by omega) (by omega)] at a; omega
def tuT : Bool := (List.range 10).all fun i => (List.range 11).all fun n => decide ((nI 2 * nI i + 1 - nI n).toInt64 = 2 * (nI i).toInt64 + 1 - (nI n).toInt64)
theorem tuT_ok : tuT = true := by decide +kernel
theorem tuT_at {i n : Nat} (hi : i < 10) (hn : n < 11) : ((2 : Int32) * nI i + 1 - nI n).toInt64 = 2 * (nI i).toInt64 + 1 - (nI n).toInt64 := of_decide_eq_true (List.all_eq_true.mp (List.all_eq_true.mp tuT_ok i (List.mem_range.mpr hi)) n (List.mem_range.mpr hn))
theorem c_turnNow (Ω : Om) (M : Mem) (f n : Nat) (v : Int32) (g : Nat → Int64) (K : Ka) (hn : n ≤ 10) (hs : mI M 2 f 4 = nI n) (hv : mI M 2 f 5 = v) (hG : ∀ i, i < n → mJ M 23 f i = g i) (h : K (some (vJ (tuS n v g))) M) : CallS Ω true m_Flow_turnNow [vR (some (2, f))] M K := by
  refine call_go (hJL rfl) (Nat.le_of_ble_eq_true rfl) (go_wp ok_Flow_turnNow [4] 250 _ _ _ _ _ _ ?_)
  conv => whnf
  refine upN n (fun j => GoS Ω true m_Flow_turnNow K 4 [some (vR (some (2, f))), some (vJ (sm (fun i => g i * (2 * (nI i).toInt64 + 1 - (nI n).toInt64)) j)), none, some (vI (nI j))] [] M 0 0) ?_ ?_ 0 (Nat.zero_le _)
  · intro j hj hN
    refine go_wp ok_Flow_turnNow [4] 250 _ _ _ _ _ _ ?_
    refine And.intro (fun a => ?_) (fun _ => ?_)
    · rw [hs, nI_leI (by omega) (by omega)] at a; omega
    conv => whnf
    refine And.intro (vp_in_nI (by omega) (by decide)) ?_
    rw [nI_clamp (by omega), hG j hj]
    conv => whnf
    rw [hs, tuT_at (show j < 10 by omega) (show n < 11 by omega)]
    rw [sm, ← nI_1] at hN
    exact hN
  · refine go_wp ok_Flow_turnNow [] 250 _ _ _ _ _ _ ?_
    refine And.intro (fun _ => ?_) (fun a => ?_)
    · refine And.intro (show ¬ (100 : Int64) = 0 by decide) ?_
      conv => whnf
      rw [hv]
      exact h
    · rw [hs, nI_leI (by omega) (by omega)] at a; omega
theorem c_dragNow (Ω : Om) (M : Mem) (t w f : Nat) (T : Tx) (v : Int32) (g d a : Nat → Int64) (K : Ka) (hW : WgOK T w) (hC : ClW M t w T) (hL : ClS M t w T) (hs : mI M 2 f 4 = nI (wN T w)) (hv : mI M 2 f 5 = v) (hG : ∀ i, i < wN T w → mJ M 23 f i = g i ∧ mJ M 24 f i = d i ∧ mJ M 26 f i = a i) (h : K (some (vJ (drS T w (wN T w) v g d a))) M) : CallS Ω true m_Text_dragNow [vR (some (7, t)), vR (some (10, 4 * t + w)), vR (some (2, f))] M K := by
  obtain ⟨hn1, hn2, hn3, hst⟩ := hW.n
  refine call_go (hJL rfl) (Nat.le_of_ble_eq_true rfl) (go_wp ok_Text_dragNow [8] 250 _ _ _ _ _ _ ?_)
  conv => whnf
  refine upN (wN T w) (fun j => GoS Ω true m_Text_dragNow K 8 [some (vR (some (7, t))), some (vR (some (10, 4 * t + w))), some (vR (some (2, f))), some (vJ (sm (fun i => (T 92 (10 * w + i)).toInt64 * lwT T (T 94 (10 * w + i)).toNatClampNeg (a i)) j)), none, some (vJ (sm (fun i => g i * d i) j)), none, some (vI (nI j))] [] M 0 0) ?_ ?_ 0 (Nat.zero_le _)
  · intro j hj hN
    have hw := hC.2.2.2.2.1 j hj
    obtain ⟨q1, q2, q3⟩ := hG j hj
    obtain ⟨-, -, ⟨k, hk, ek, hLk⟩, -⟩ := hst j hj
    refine go_wp ok_Text_dragNow [8] 250 _ _ _ _ _ _ ?_
    refine And.intro (fun b => ?_) (fun _ => And.intro (fun b => absurd b (nI_ge (b := 10) (by omega) (by decide))) (fun _ => ?_))
    · rw [hs, nI_leI (by omega) (by omega)] at b; omega
    conv => whnf
    refine And.intro (vp_in_nI (by omega) (by decide)) ?_
    conv => whnf
    refine And.intro (vp_in_nI (by omega) (by decide)) ?_
    conv => whnf
    refine And.intro (vp_in_nI (by omega) (by decide)) ?_
    rw [nI_clamp (by omega), hw.1, hw.2.2.1, q3, ek]
    refine cl_use (fun K h => c_lawValue Ω M t k T (a j) K hk (hL j hj k hk (Or.inr ek)) hLk h) trivial ?_
    conv => whnf
    refine And.intro (vp_in_nI (by omega) (by decide)) ?_
    conv => whnf
    refine And.intro (vp_in_nI (by omega) (by decide)) ?_
    rw [nI_clamp (by omega), q1, q2]
    rw [sm, sm, ← nI_1, ek, nI_clamp (by omega)] at hN
    exact hN
  · refine go_wp ok_Text_dragNow [] 250 _ _ _ _ _ _ ?_
    refine And.intro (fun _ => ?_) (fun b => ?_)
    · refine And.intro (show ¬ (57 : Int64) = 0 by decide) ?_
      refine And.intro (show ¬ (100 : Int64) = 0 by decide) ?_
      conv => whnf
      rw [hv]
      exact h
    · rw [hs, nI_leI (by omega) (by omega)] at b; omega
