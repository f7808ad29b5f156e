/-! CONSTRUCTORS, IX: WingHouse, its beginning and its texts -/
theorem cnt_add (k : Nat) (L : List Nat) : [11].count k + L.count k = (11 :: L).count k := by
  simp only [List.count_cons, List.count_nil]; omega
set_option maxHeartbeats 4000000 in
theorem wh_first {Ω : Om} {K : Ka} {M : Mem} (hI : IV M [(11, 0)]) (hz : Zer M 11 0) (hc : ∀ k, k < 141 → mC M k = [11].count k) (hN : ∀ M', WI 7 [65, 64, 63] M M' → GoS Ω false m_WH_init K 49 [some (vR (some (11, 0))), none] [] M' 3 2014) : GoS Ω false m_WH_init K 0 [some (vR (some (11, 0))), none] [] M 0 0 := by
  have h63 : mC M 63 = 0 := (hc 63 (by decide)).trans rfl
  have h64 : mC M 64 = 0 := (hc 64 (by decide)).trans rfl
  have h65 : mC M 65 = 0 := (hc 65 (by decide)).trans rfl
  refine go_wp ok_WH_init [49] 60 _ _ _ _ _ _ ?_
  conv => whnf
  repeat' (first | refine And.intro rfl (And.intro ⟨Nat.le_of_ble_eq_true rfl, Nat.le_of_ble_eq_true rfl⟩ ?_) | refine And.intro ⟨Nat.le_of_ble_eq_true rfl, Nat.le_of_ble_eq_true rfl⟩ ?_ | refine And.intro (Or.inl rfl) ?_; conv => whnf)
  have hfin : ∀ M2 : Mem, IV M2 ((64, 0) :: (11, 0) :: []) → Cnt [65, 64, 63] M M2 → Unch wU M M2 → (∀ s, s < 13 → mI M2 11 0 s = (if s < 7 then iI 11 s else 0) ∧ mJ M2 11 0 s = 0 ∧ mR M2 11 0 s = (if s < 7 then iR 11 0 s else none)) → Zer M2 64 0 → GoS Ω false m_WH_init K 49 [some (vR (some (11, 0))), none] [] M2 3 2014 := by
    intro M2 a b c d e
    exact hN M2 ⟨a, fun k hk => by rw [b k, hc k hk]; exact cnt_add k _, c, d, e⟩
  refine go_c ?_ ?_ ?_ ?_ (hfin _ ?_ ?_ ?_ (fun s hs => ?_) (fun s => ?_))
  · exact Nat.le_of_ble_eq_true rfl
  · exact Nat.le_of_ble_eq_true rfl
  · exact Nat.le_of_ble_eq_true rfl
  · exact Nat.le_of_ble_eq_true rfl
  · repeat' (first | exact hI | refine IV.putI ?_ (by simp) | refine IV.putR ?_ (by simp) | refine IV.newA (k := 63) ?_ (fun _ _ => ⟨rfl, rfl, rfl⟩) | refine IV.newA (k := 65) ?_ (fun _ _ => ⟨rfl, rfl, rfl⟩) | refine IV.new' (k := 64) (op := [(11, 0)]) ?_ h64)
  · repeat' (first | exact Cnt.rfl | refine Cnt.putI ?_ | refine Cnt.putJ ?_ | refine Cnt.putR ?_ | refine Cnt.new ?_)
  · repeat' (first | exact Unch.rfl | refine Unch.putI ?_ (wU_mem (by decide)) | refine Unch.putJ ?_ (wU_mem (by decide)) | refine Unch.putR ?_ (wU_mem (by decide)) | refine Unch.new ?_ (wU_mem (by decide)))
  · rcases (show s = 0 ∨ s = 1 ∨ s = 2 ∨ s = 3 ∨ s = 4 ∨ s = 5 ∨ s = 6 ∨ s = 7 ∨ s = 8 ∨ s = 9 ∨ s = 10 ∨ s = 11 ∨ s = 12 by omega) with rfl | rfl | rfl | rfl | rfl | rfl | rfl | rfl | rfl | rfl | rfl | rfl | rfl <;> (refine ⟨?_, ?_, ?_⟩ <;> first | rfl | (simp [mI_sI, mI_sJ, mI_sR, mI_sNew, mJ_sI, mJ_sJ, mJ_sR, mJ_sNew, mR_sI, mR_sJ, mR_sR, mR_sNew, mC_sI, mC_sJ, mC_sR, mC_sNew, h63, h64, h65, (hz _).1, (hz _).2.1, (hz _).2.2]; try rfl))
  · simp [mI_sI, mI_sJ, mI_sR, mI_sNew, mJ_sI, mJ_sJ, mJ_sR, mJ_sNew, mR_sI, mR_sJ, mR_sR, mR_sNew, mC_sI, mC_sJ, mC_sR, mC_sNew, h64]
theorem wh_outs {Ω : Om} {K : Ka} {M : Mem} (hN : ∀ M', WI 13 [66, 36, 35, 34, 33, 32, 31, 30, 5, 22, 21, 20, 19, 18, 1, 56, 55, 54, 53, 26, 25, 24, 23, 2, 9, 41, 40, 39, 38, 26, 25, 24, 23, 2, 37, 6, 29, 52, 51, 50, 49, 8, 4, 65, 64, 63] M M' → GoS Ω false m_WH_init K 125 [some (vR (some (11, 0))), some (vI (nI 0))] [] M' 46 4405) : ∀ M', WI 12 [36, 35, 34, 33, 32, 31, 30, 5, 22, 21, 20, 19, 18, 1, 56, 55, 54, 53, 26, 25, 24, 23, 2, 9, 41, 40, 39, 38, 26, 25, 24, 23, 2, 37, 6, 29, 52, 51, 50, 49, 8, 4, 65, 64, 63] M M' → GoS Ω false m_WH_init K 116 [some (vR (some (11, 0))), none] [] M' 45 4401 := by
  intro M' hA
  have hc : mC M' 66 = 0 := (hA.2.1 66 (by decide)).trans rfl
  refine go_wp ok_WH_init [125] 20 _ _ _ _ _ _ ?_
  conv => whnf
  refine And.intro rfl (And.intro ⟨Nat.le_of_ble_eq_true rfl, Nat.le_of_ble_eq_true rfl⟩ ?_)
  rw [hc]
  conv => whnf
  refine hN _ (hA.call (j := 12) (k0 := 66) (ks := []) (us := []) (M2 := sNew M' 66) (by decide) (by decide) (by decide) (by decide) rfl rfl (IV.newA hA.1 (fun _ _ => ⟨rfl, rfl, rfl⟩)) Cnt.rfl Unch.rfl (by decide) (by decide) (fun k hk => (by cases hk)))
/-- how many a Text makes, itself too -/
def tC (k : Nat) : Nat := [7].count k + (cntT.count k + 8 * [28, 27, 3].count k + 4 * [26, 25, 24, 23, 2, 62, 61, 60, 59, 58, 57, 10].count k)
def tU : List Nat := [7, 42, 43, 44, 45, 46, 47, 48, 0, 13, 14, 15, 16, 17, 3, 27, 28, 10, 57, 58, 59, 60, 61, 62, 2, 23, 24, 25, 26]
def wL : List Nat := 11 :: [66, 36, 35, 34, 33, 32, 31, 30, 5, 22, 21, 20, 19, 18, 1, 56, 55, 54, 53, 26, 25, 24, 23, 2, 9, 41, 40, 39, 38, 26, 25, 24, 23, 2, 37, 6, 29, 52, 51, 50, 49, 8, 4, 65, 64, 63]
/-- when t texts are made -/
def WX (t : Nat) (M M' : Mem) : Prop :=
  IV M' [(64, 0)] ∧ (∀ k, k < 141 → mC M' k = wL.count k + t * tC k) ∧ Unch wU M M' ∧ mR M' 11 0 3 = some (64, 0) ∧ RowR M' 64 0 t (fun s => some (7, s))
theorem WX.zero {M M' : Mem} (h : WI 13 [66, 36, 35, 34, 33, 32, 31, 30, 5, 22, 21, 20, 19, 18, 1, 56, 55, 54, 53, 26, 25, 24, 23, 2, 9, 41, 40, 39, 38, 26, 25, 24, 23, 2, 37, 6, 29, 52, 51, 50, 49, 8, 4, 65, 64, 63] M M') : WX 0 M M' := by
  refine ⟨IV.close (k := 11) (i := 0) (h.1.sub (fun q hq => ?_)) (fun s hs => ?_), fun k hk => ?_, h.2.2.1, ?_, RowR.zero h.2.2.2.2⟩
  · simp only [List.mem_cons] at hq ⊢
    rcases hq with h | h | h <;> simp [h]
  · have hs : s < 13 := hs
    obtain ⟨e1, e2, e3⟩ := h.2.2.2.1 s hs
    rw [if_pos hs] at e1 e3
    exact ⟨e1, e2.trans rfl, e3⟩
  · rw [h.2.1 k hk, Nat.zero_mul, Nat.add_zero]
    rfl
  · exact (h.2.2.2.1 3 (by decide)).2.2.trans rfl
theorem WX.cn {t : Nat} {M M' : Mem} (h : WX t M M') {k : Nat} (hk : k < 141) (hn : k ≠ 7) : mC (sNew M' 7) k = wL.count k + t * tC k := by
  rw [mC_sNew, if_neg hn]
  exact h.2.1 k hk
theorem n_1 {t : Nat} : 0 + t * 1 = t := by omega
theorem n_4 {t : Nat} : 0 + t * 4 = 4 * t := by omega
theorem n_8 {t : Nat} : 0 + t * 8 = 8 * t := by omega
theorem n_42 {t : Nat} : 2 + t * 4 = 4 * t + 2 := by omega
theorem bW {t : Nat} (h : t < 4) : (46 + 86 * t + 1 ≤ mCe 107 ∧ 4405 + 1765 * t + clN 7 ≤ mSl 107) ∧ (46 + 86 * t + 1 + mCe 70 ≤ mCe 107 ∧ 4405 + 1765 * t + clN 7 + mSl 70 ≤ mSl 107) ∧ (46 + 86 * t + 1 + mCe 70 ≤ 46 + 86 * (t + 1) ∧ 4405 + 1765 * t + clN 7 + mSl 70 ≤ 4405 + 1765 * (t + 1)) ∧ (46 + 86 * (t + 1) ≤ mCe 107 ∧ 4405 + 1765 * (t + 1) ≤ mSl 107) := by
  have b1 : mCe 107 = 390 := rfl
  have b2 : mSl 107 = 11465 := rfl
  have b3 : mCe 70 = 85 := rfl
  have b4 : mSl 70 = 1753 := rfl
  have b5 : clN 7 = 12 := rfl
  omega
theorem WX.step {t : Nat} {M M' M2 : Mem} (h : WX t M M') (h7 : mC M' 7 = t) (hI : IV M2 [(64, 0)]) (hC : ∀ k, mC M2 k = mC (sNew M' 7) k + cntT.count k + 8 * [28, 27, 3].count k + 4 * [26, 25, 24, 23, 2, 62, 61, 60, 59, 58, 57, 10].count k) (hU : Unch tU (sNew M' 7) M2) : WX (t + 1) M (sR M2 64 0 t (some (7, t))) := by
  have hU5 : Unch tU M' M2 := Unch.trans (Unch.new Unch.rfl (by decide)) hU
  refine ⟨IV.putR hI List.mem_cons_self, fun k hk => ?_, Unch.putR ((h.2.2.1.trans (Unch.mono (fun k hk => ?_) hU5))) (wU_mem (by decide)), ?_, RowR.succ (h.2.2.2.2.unch hU5 (by decide)) rfl⟩
  · rw [mC_sR, hC k, Nat.add_mul, Nat.one_mul, ← Nat.add_assoc, ← h.2.1 k hk, mC_sNew, tC]
    by_cases e : k = 7
    · subst e
      rw [if_pos rfl]
      simp
      omega
    · rw [if_neg e]
      simp [Ne.symm e]
      omega
  · exact wU_mem (by revert k; decide)
  · rw [mR_sR, if_neg (fun q => absurd q.1 (by decide)), (hU5 11 (by decide) 0 3).2.2]
    exact h.2.2.2.1
theorem WX.fin {M M' : Mem} (h : WX 4 M M') : IV M' [] := by
  refine IV.close (k := 64) (i := 0) h.1 (fun s hs => ?_)
  have hs : s < 4 := hs
  exact ⟨(h.2.2.2.2 s).1.trans rfl, (h.2.2.2.2 s).2.1.trans rfl, ((h.2.2.2.2 s).2.2 hs).trans rfl⟩
set_option maxHeartbeats 8000000 in
theorem lp_WH {Ω : Om} {K : Ka} {M : Mem} (hK : ∀ M', IV M' [] → (∀ k, k < 141 → mC M' k = wL.count k + 4 * tC k) → Unch wU M M' → K none M') : ∀ (f t : Nat) (M' : Mem), t ≤ 4 → 4 - t ≤ f → WX t M M' → GoS Ω false m_WH_init K 125 [some (vR (some (11, 0))), some (vI (nI t))] [] M' (46 + 86 * t) (4405 + 1765 * t) := by
  intro f
  induction f with
  | zero =>
    intro t M' hj hf h
    have e : t = 4 := by omega
    subst e
    refine go_wp ok_WH_init [] 20 _ _ _ _ _ _ ?_
    refine br_t (Int32.le_refl _) ?_
    exact hK M' h.fin h.2.1 h.2.2.1
  | succ f ih =>
    intro t M' hj hf h
    refine go_wp ok_WH_init [125] 20 _ _ _ _ _ _ ?_
    refine And.intro (fun g => ?_) (fun g => ?_)
    · have e : t = 4 := j4 hj g
      subst e
      exact hK M' h.fin h.2.1 h.2.2.1
    · have hlt : t < 4 := j4n hj g
      have h7 : mC M' 7 = t := (h.2.1 7 (by decide)).trans n_1
      conv => whnf
      rw [show rR false M' 11 0 3 = some (64, 0) from h.2.2.2.1]
      conv => whnf
      refine And.intro (bW hlt).1 ?_
      conv => whnf
      rw [h7]
      refine ⟨fun v M2 => v = none ∧ IV M2 [(64, 0)] ∧ (∀ k, mC M2 k = mC (sNew M' 7) k + cntT.count k + 8 * [28, 27, 3].count k + 4 * [26, 25, 24, 23, 2, 62, 61, 60, 59, 58, 57, 10].count k) ∧ Unch tU (sNew M' 7) M2, c_Text_init Ω (sNew M' 7) t [(64, 0)] _ (IV.new' h.1 h7) (by rw [← h7]; exact Zer.new) ⟨(h.cn (k := 42) (by decide) (by decide)).trans n_1, (h.cn (k := 43) (by decide) (by decide)).trans n_1, (h.cn (k := 44) (by decide) (by decide)).trans n_1, (h.cn (k := 45) (by decide) (by decide)).trans n_1, (h.cn (k := 46) (by decide) (by decide)).trans n_1, (h.cn (k := 47) (by decide) (by decide)).trans n_1, (h.cn (k := 48) (by decide) (by decide)).trans n_1, (h.cn (k := 0) (by decide) (by decide)).trans n_1, (h.cn (k := 13) (by decide) (by decide)).trans n_1, (h.cn (k := 14) (by decide) (by decide)).trans n_1, (h.cn (k := 15) (by decide) (by decide)).trans n_1, (h.cn (k := 16) (by decide) (by decide)).trans n_1, (h.cn (k := 17) (by decide) (by decide)).trans n_1, (h.cn (k := 3) (by decide) (by decide)).trans n_8, (h.cn (k := 27) (by decide) (by decide)).trans n_8, (h.cn (k := 28) (by decide) (by decide)).trans n_8, (h.cn (k := 10) (by decide) (by decide)).trans n_4, (h.cn (k := 57) (by decide) (by decide)).trans n_4, (h.cn (k := 58) (by decide) (by decide)).trans n_4, (h.cn (k := 59) (by decide) (by decide)).trans n_4, (h.cn (k := 60) (by decide) (by decide)).trans n_4, (h.cn (k := 61) (by decide) (by decide)).trans n_4, (h.cn (k := 62) (by decide) (by decide)).trans n_4, (h.cn (k := 2) (by decide) (by decide)).trans n_42, (h.cn (k := 23) (by decide) (by decide)).trans n_42, (h.cn (k := 24) (by decide) (by decide)).trans n_42, (h.cn (k := 25) (by decide) (by decide)).trans n_42, (h.cn (k := 26) (by decide) (by decide)).trans n_42⟩ (fun M' a b c => ⟨rfl, a, b, c⟩), (bW hlt).2.1, ?_⟩
      rintro v M2 ⟨rfl, hI2, hC2, hU2⟩
      conv => whnf
      refine And.intro (vp_in_nI hlt (by decide)) ?_
      rw [nI_clamp (Nat.lt_trans hlt (by decide))]
      have hfin := ih (t + 1) (sR M2 64 0 t (some (7, t))) hlt (st1 hf) (h.step h7 hI2 hC2 hU2)
      rw [← nI_1] at hfin
      have hgo := go_c (bW hlt).2.2.1.1 (bW hlt).2.2.1.2 (bW hlt).2.2.2.1 (bW hlt).2.2.2.2 hfin
      exact hgo
theorem c_WH_init (Ω : Om) (M : Mem) (K : Ka) (hI : IV M [(11, 0)]) (hz : Zer M 11 0) (hc : ∀ k, k < 141 → mC M k = [11].count k) (hK : ∀ M', IV M' [] → (∀ k, k < 141 → mC M' k = wL.count k + 4 * tC k) → Unch wU M M' → K none M') : CallS Ω false m_WH_init [vR (some (11, 0))] M K := by
  refine call_go (hJL rfl) (Nat.le_of_ble_eq_true rfl) ?_
  exact wh_first hI hz hc (wh_Reader (wh_Solver (wh_Trials (wh_Best (wh_Runs (wh_outs (fun M1 hA => lp_WH hK 4 0 M1 (Nat.zero_le _) (Nat.le_refl _) (WX.zero hA))))))))
