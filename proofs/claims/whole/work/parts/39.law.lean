/-! LAW, FROM ITS ENTRY TO ITS LOOP -/
theorem su_0 (i d : Nat) : srU 0 i (d + 9) = none := rfl
theorem su_1 (i d : Nat) : srU 1 i (d + 9) = none := rfl
theorem su_2 (i d : Nat) : srU 2 i (d + 7) = none := rfl
theorem su_3 (i d : Nat) : srU 3 i (d + 3) = none := rfl
theorem su_4 (i d : Nat) : srU 4 i (d + 10) = none := rfl
theorem su_5 (i d : Nat) : srU 5 i (d + 9) = none := rfl
theorem su_6 (i d : Nat) : srU 6 i (d + 9) = none := rfl
theorem su_7 (i d : Nat) : srU 7 i (d + 12) = none := rfl
theorem su_8 (i d : Nat) : srU 8 i (d + 8) = none := rfl
theorem su_9 (i d : Nat) : srU 9 i (d + 6) = none := rfl
theorem su_10 (i d : Nat) : srU 10 i (d + 12) = none := rfl
theorem su_11 (i d : Nat) : srU 11 i (d + 13) = none := rfl
theorem su_12 (i d : Nat) : srU 12 i (d + 105) = none := rfl
theorem su_65 (d i s : Nat) : srU (d + 65) i s = none := rfl
theorem su_out {k i s : Nat} (hs : kSz k ≤ s) (hb : inB k s = true) : srU k i s = none := by
  by_cases h : 65 ≤ k
  · rw [← Nat.sub_add_cancel h]
    exact su_65 _ _ _
  rcases (show k = 0 ∨ k = 1 ∨ k = 2 ∨ k = 3 ∨ k = 4 ∨ k = 5 ∨ k = 6 ∨ k = 7 ∨ k = 8 ∨ k = 9 ∨ k = 10 ∨ k = 11 ∨ k = 12 ∨ k = 13 ∨ k = 14 ∨ k = 15 ∨ k = 16 ∨ k = 17 ∨ k = 18 ∨ k = 19 ∨ k = 20 ∨ k = 21 ∨ k = 22 ∨ k = 23 ∨ k = 24 ∨ k = 25 ∨ k = 26 ∨ k = 27 ∨ k = 28 ∨ k = 29 ∨ k = 30 ∨ k = 31 ∨ k = 32 ∨ k = 33 ∨ k = 34 ∨ k = 35 ∨ k = 36 ∨ k = 37 ∨ k = 38 ∨ k = 39 ∨ k = 40 ∨ k = 41 ∨ k = 42 ∨ k = 43 ∨ k = 44 ∨ k = 45 ∨ k = 46 ∨ k = 47 ∨ k = 48 ∨ k = 49 ∨ k = 50 ∨ k = 51 ∨ k = 52 ∨ k = 53 ∨ k = 54 ∨ k = 55 ∨ k = 56 ∨ k = 57 ∨ k = 58 ∨ k = 59 ∨ k = 60 ∨ k = 61 ∨ k = 62 ∨ k = 63 ∨ k = 64 by omega) with rfl | rfl | rfl | rfl | rfl | rfl | rfl | rfl | rfl | rfl | rfl | rfl | rfl | rfl | rfl | rfl | rfl | rfl | rfl | rfl | rfl | rfl | rfl | rfl | rfl | rfl | rfl | rfl | rfl | rfl | rfl | rfl | rfl | rfl | rfl | rfl | rfl | rfl | rfl | rfl | rfl | rfl | rfl | rfl | rfl | rfl | rfl | rfl | rfl | rfl | rfl | rfl | rfl | rfl | rfl | rfl | rfl | rfl | rfl | rfl | rfl | rfl | rfl | rfl | rfl
  · have hs : 9 ≤ s := hs
    rw [← Nat.sub_add_cancel hs]
    exact su_0 i _
  · have hs : 9 ≤ s := hs
    rw [← Nat.sub_add_cancel hs]
    exact su_1 i _
  · have hs : 7 ≤ s := hs
    rw [← Nat.sub_add_cancel hs]
    exact su_2 i _
  · have hs : 3 ≤ s := hs
    rw [← Nat.sub_add_cancel hs]
    exact su_3 i _
  · have hs : 10 ≤ s := hs
    rw [← Nat.sub_add_cancel hs]
    exact su_4 i _
  · have hs : 9 ≤ s := hs
    rw [← Nat.sub_add_cancel hs]
    exact su_5 i _
  · have hs : 9 ≤ s := hs
    rw [← Nat.sub_add_cancel hs]
    exact su_6 i _
  · have hs : 12 ≤ s := hs
    rw [← Nat.sub_add_cancel hs]
    exact su_7 i _
  · have hs : 8 ≤ s := hs
    rw [← Nat.sub_add_cancel hs]
    exact su_8 i _
  · have hs : 6 ≤ s := hs
    rw [← Nat.sub_add_cancel hs]
    exact su_9 i _
  · have hs : 12 ≤ s := hs
    rw [← Nat.sub_add_cancel hs]
    exact su_10 i _
  · have hs : 13 ≤ s := hs
    rw [← Nat.sub_add_cancel hs]
    exact su_11 i _
  · have hs : 105 ≤ s := hs
    rw [← Nat.sub_add_cancel hs]
    exact su_12 i _
  · rfl
  · rfl
  · rfl
  · rfl
  · rfl
  · rfl
  · rfl
  · rfl
  · rfl
  · rfl
  · rfl
  · rfl
  · rfl
  · rfl
  · rfl
  · rfl
  · rfl
  · rfl
  · rfl
  · rfl
  · rfl
  · rfl
  · rfl
  · rfl
  · rfl
  · rfl
  · rfl
  · rfl
  · rfl
  · have hs : 8 ≤ s := hs
    have hb : Nat.ble s 7 = true := hb
    exact absurd (Nat.le_of_ble_eq_true hb) (by omega)
  · rfl
  · rfl
  · have hs : 4 ≤ s := hs
    have hb : Nat.ble s 3 = true := hb
    exact absurd (Nat.le_of_ble_eq_true hb) (by omega)
  · rfl
  · rfl
  · rfl
  · rfl
  · rfl
  · rfl
  · rfl
  · rfl
  · rfl
  · rfl
  · rfl
  · rfl
  · rfl
  · rfl
  · rfl
  · rfl
  · rfl
  · rfl
  · have hs : 4 ≤ s := hs
    have hb : Nat.ble s 3 = true := hb
    exact absurd (Nat.le_of_ble_eq_true hb) (by omega)
theorem IV_tab {M : Mem} (h : IV M []) : ∀ k i s r, inW M (k, i) → srT k i s = some r → mR M k i s = r := by
  intro k i s r hw hs
  have hin : inB k s = true ∧ srU k i s = some r := by
    unfold srT at hs
    cases e : inB k s with
    | true => rw [e] at hs; exact ⟨rfl, hs⟩
    | false => rw [e] at hs; cases hs
  have hlt : s < kSz k := by
    by_cases g : s < kSz k
    · exact g
    · rw [su_out (Nat.le_of_not_lt g) hin.1] at hin
      cases hin.2
  have h1 := (h k i hw.1 hw.2 (by simp) s hlt).2.2
  rw [h1, iR, hin.2]
  rfl
def lawC : Bool := (List.range 141).all fun k => decide (wL.count k + 4 * tC k + (cond (Nat.beq k 12) 1 0) + cond (Nat.ble 67 k && Nat.ble (k + 1) 141) 1 0 = iC k)
theorem lawC_ok : lawC = true := by decide +kernel
theorem lawC_at {k : Nat} (h : k < 141) : wL.count k + 4 * tC k + (cond (Nat.beq k 12) 1 0) + cond (Nat.ble 67 k && Nat.ble (k + 1) 141) 1 0 = iC k := of_decide_eq_true (List.all_eq_true.mp lawC_ok k (List.mem_range.mpr h))
def lawZ : Bool := (List.range 74).all fun j => decide (wL.count (67 + j) + 4 * tC (67 + j) = 0)
theorem lawZ_ok : lawZ = true := by decide +kernel
theorem lawZ_at {k : Nat} (h : 67 ≤ k) (h2 : k < 141) : wL.count k + 4 * tC k = 0 := by
  have := of_decide_eq_true (List.all_eq_true.mp lawZ_ok (k - 67) (List.mem_range.mpr (by omega)))
  rwa [show 67 + (k - 67) = k by omega] at this
/-- all is made and as it is to be -/
def Ready (Ω : Om) (M : Mem) : Prop := IV M [] ∧ (∀ k, k < 141 → mC M k = iC k) ∧ Unch wU (M00 Ω) M
theorem M00_IV {Ω : Om} : IV (M00 Ω) [] := fun k i _ hi => absurd hi (Nat.not_lt_zero _)
theorem mdU_wU {k : Nat} (h : k ∈ mdU) : k ∈ wU := by
  rcases List.mem_cons.mp h with rfl | h
  · exact wU_mem (by decide)
  · have := List.mem_range'_1.mp h
    exact wU_mem (by omega)
theorem law_made (Ω : Om) (K : Ka) (hN : ∀ M, Ready Ω M → GoS Ω true m_LAW_law K 18 [some (vR (some (kSCR, 0))), some (vR (some (11, 0))), some (vR (some (12, 0))), some (vI (nI 0))] [] M (mCe m_LAW_law) (mSl m_LAW_law)) : GoS Ω false m_LAW_law K 0 (eL [vR (some (kSCR, 0))] 4) [] (M00 Ω) 0 0 := by
  refine go_wp ok_LAW_law [18] 40 _ _ _ _ _ _ ?_
  conv => whnf
  refine And.intro ⟨Nat.le_of_ble_eq_true rfl, Nat.le_of_ble_eq_true rfl⟩ ?_
  conv => whnf
  refine ⟨fun v M' => v = none ∧ IV M' [] ∧ (∀ k, k < 141 → mC M' k = wL.count k + 4 * tC k) ∧ Unch wU (sNew (M00 Ω) 11) M', c_WH_init Ω (sNew (M00 Ω) 11) _ (IV.new' M00_IV rfl) (Zer.new (M := M00 Ω) (k := 11)) (fun k hk => ?_) (fun M' a b c => ⟨rfl, a, b, c⟩), ⟨Nat.le_of_ble_eq_true rfl, Nat.le_of_ble_eq_true rfl⟩, ?_⟩
  · rw [mC_sNew]
    by_cases e : k = 11
    · subst e; rfl
    · rw [if_neg e]
      simp [Ne.symm e]
      rfl
  rintro v M1 ⟨rfl, hI1, hC1, hU1⟩
  have h12 : mC M1 12 = 0 := (hC1 12 (by decide)).trans rfl
  conv => whnf
  refine And.intro ⟨Nat.le_of_ble_eq_true rfl, Nat.le_of_ble_eq_true rfl⟩ ?_
  rw [h12]
  conv => whnf
  refine ⟨fun v M' => v = none ∧ IV M' [] ∧ (∀ k, mC M' k = mC (sNew M1 12) k + cond (Nat.ble 67 k && Nat.ble (k + 1) 141) 1 0) ∧ Unch mdU (sNew M1 12) M', c_MD_init Ω (sNew M1 12) [] _ (IV.new' hI1 h12) (by rw [← h12]; exact Zer.new) (fun k hk hk2 => ?_) (fun M' a b c => ⟨rfl, a, b, c⟩), ⟨Nat.le_of_ble_eq_true rfl, Nat.le_of_ble_eq_true rfl⟩, ?_⟩
  · rw [mC_sNew, if_neg (by omega), hC1 k hk2]
    exact lawZ_at hk hk2
  rintro v M2 ⟨rfl, hI2, hC2, hU2⟩
  have hR : Ready Ω M2 := by
    refine ⟨hI2, fun k hk => ?_, ?_⟩
    · rw [hC2 k, mC_sNew, ← lawC_at hk]
      by_cases e : k = 12
      · subst e
        rw [if_pos rfl, hC1 12 (by decide)]
        rfl
      · rw [if_neg e, hC1 k hk, show Nat.beq k 12 = false from Bool.eq_false_iff.mpr (fun q => e (Nat.eq_of_beq_eq_true q))]
        rfl
    · exact ((Unch.new Unch.rfl (wU_mem (by decide))).trans hU1).trans ((Unch.new Unch.rfl (wU_mem (by decide))).trans (hU2.mono (fun k hk => mdU_wU hk)))
  conv => whnf
  refine go_c ?_ ?_ ?_ ?_ (go_switch (IV_tab hI2) (hN M2 hR))
  · exact Nat.le_of_ble_eq_true rfl
  · exact Nat.le_of_ble_eq_true rfl
  · exact Nat.le_refl _
  · exact Nat.le_refl _
