/-! CONSTRUCTORS, V: Text, from its entry -/
theorem CntM.at {j : Nat} {ks : List Nat} {M M' : Mem} (h : CntM j ks M M') (k : Nat) (hk : ks.count k = 0) : mC M' k = mC M k := by
  have := h k
  rw [hk] at this
  omega
set_option maxHeartbeats 8000000 in
/-- the laws' loop -/
theorem lp_Text1 (Ω : Om) (t : Nat) (M0 : Mem) (op : List (Nat × Nat)) (K : Ka) (hc : mC M0 3 = 8 * t ∧ mC M0 27 = 8 * t ∧ mC M0 28 = 8 * t)
    (hN : ∀ M', IV M' ((45, t) :: op) → CntM 8 [28, 27, 3] M0 M' → Unch [42, 3, 27, 28] M0 M' → GoS Ω false m_Text_init K 119 [some (vR (some (7, t))), some (vI (nI 0))] [] M' (37 + 12 * 0) (1301 + 113 * 0)) : ∀ (f j : Nat) (M : Mem), j ≤ 8 → 8 - j ≤ f → IV M ((42, t) :: (45, t) :: op) → CntM j [28, 27, 3] M0 M → Unch [42, 3, 27, 28] M0 M → RowR M 42 t j (fun s => some (3, 8 * t + s)) → mR M 7 t 0 = some (42, t) →
    GoS Ω false m_Text_init K 92 [some (vR (some (7, t))), some (vI (nI j))] [] M (13 + 3 * j) (1149 + 19 * j) := by
  have fin : ∀ M, IV M ((42, t) :: (45, t) :: op) → CntM 8 [28, 27, 3] M0 M → Unch [42, 3, 27, 28] M0 M → RowR M 42 t 8 (fun s => some (3, 8 * t + s)) → GoS Ω false m_Text_init K 119 [some (vR (some (7, t))), some (vI (nI 0))] [] M (13 + 3 * 8) (1149 + 19 * 8) := by
    intro M hI hC hU hR
    refine hN M (IV.close (k := 42) (i := t) hI (fun s hs => ?_)) hC hU
    have hs : s < 8 := hs
    refine ⟨(hR s).1.trans rfl, (hR s).2.1.trans rfl, ((hR s).2.2 hs).trans rfl⟩
  intro f
  induction f with
  | zero =>
    intro j M hj hf hI hC hU hR h7
    have e : j = 8 := by omega
    subst e
    refine go_wp ok_Text_init [119] 20 _ _ _ _ _ _ ?_
    refine br_t (Int32.le_refl _) ?_
    exact fin M hI hC hU hR
  | succ f ih =>
    intro j M hj hf hI hC hU hR h7
    refine go_wp ok_Text_init [92, 119] 20 _ _ _ _ _ _ ?_
    refine And.intro (fun g => ?_) (fun g => ?_)
    · have e : j = 8 := j8 hj g
      subst e
      exact fin M hI hC hU hR
    · have hlt : j < 8 := j8n hj g
      obtain ⟨c1, c2, c3⟩ := hc
      have k1 : mC M 3 = 8 * t + j := k_8 (hC 3) c1
      have k2 : mC M 27 = 8 * t + j := k_8 (hC 27) c2
      have k3 : mC M 28 = 8 * t + j := k_8 (hC 28) c3
      conv => whnf
      refine And.intro (bT1 hlt).1 ?_
      conv => whnf
      rw [k1]
      refine ⟨fun v M' => v = none ∧ IV M' ((42, t) :: (45, t) :: op) ∧ Cnt [28, 27] (sNew M 3) M' ∧ Unch [3, 27, 28] (sNew M 3) M', c_Law_init Ω (sNew M 3) (8 * t + j) ((42, t) :: (45, t) :: op) _ (by rw [← k1]; exact IV.new hI) (by rw [← k1]; exact Zer.new) ⟨k2, k3⟩ (fun M' a b c => ⟨rfl, a, b, c⟩), (bT1 hlt).2.1, ?_⟩
      rintro v M' ⟨rfl, hI2, hC2, hU2⟩
      have hC4 : Cnt [28, 27, 3] M M' := Cnt.app (ks := [3]) (ks' := [28, 27]) (Cnt.new Cnt.rfl) hC2
      have hU4 : Unch [42, 3, 27, 28] M M' := Unch.trans (Unch.new Unch.rfl (by simp)) (hU2.mono (by simp))
      have hU5 : Unch [3, 27, 28] M M' := Unch.trans (Unch.new Unch.rfl (by simp)) hU2
      conv => whnf
      rw [show rR false M 7 t 0 = some (42, t) from h7]
      conv => whnf
      refine And.intro (vp_in_nI hlt (by decide)) ?_
      rw [nI_clamp (Nat.lt_trans hlt (by decide))]
      have hR3 : RowR (sR M' 42 t j (some (3, 8 * t + j))) 42 t (j + 1) (fun s => some (3, 8 * t + s)) := RowR.succ (hR.unch hU5 (by simp)) rfl
      have hfin := ih (j + 1) (sR M' 42 t j (some (3, 8 * t + j))) hlt (st1 hf) (IV.putR hI2 List.mem_cons_self) (hC.succ hC4) (hU.trans (Unch.putR hU4 (by simp))) hR3 (by rw [mR_sR, if_neg (by simp), (hU4 7 (by simp) t 0).2.2]; exact h7)
      rw [← nI_1] at hfin
      have hgo := go_c (bT1 hlt).2.2.1.1 (bT1 hlt).2.2.1.2 (bT1 hlt).2.2.2.1 (bT1 hlt).2.2.2.2 hfin
      exact hgo
/-- what a Text makes -/
def cntT : List Nat := [48, 47, 46, 17, 16, 15, 14, 13, 0, 45, 44, 43, 42]
theorem IV.new' {M : Mem} {op : List (Nat × Nat)} {k i : Nat} (h : IV M op) (e : mC M k = i) : IV (sNew M k) ((k, i) :: op) := by rw [← e]; exact IV.new h
theorem IV.sub {M : Mem} {op op' : List (Nat × Nat)} (h : IV M op) (hs : ∀ q, q ∈ op → q ∈ op') : IV M op' := fun k i hk hi hno => h k i hk hi (fun q => hno (hs _ q))
theorem Cnt.at {ks : List Nat} {M M' : Mem} (h : Cnt ks M M') (k : Nat) (hk : ks.count k = 0) : mC M' k = mC M k := by
  have := h k
  rw [hk] at this
  exact this
theorem RowR.fromZ {M : Mem} {k i : Nat} {f : Nat → Rf} (h : ∀ s, mI M k i s = 0 ∧ mJ M k i s = 0) : RowR M k i 0 f := fun s => ⟨(h s).1, (h s).2, fun q => absurd q (Nat.not_lt_zero _)⟩
set_option maxHeartbeats 16000000 in
theorem c_Text_init (Ω : Om) (M : Mem) (t : Nat) (op : List (Nat × Nat)) (K : Ka) (hI : IV M ((7, t) :: op)) (hz : Zer M 7 t) (hc : mC M 42 = t ∧ mC M 43 = t ∧ mC M 44 = t ∧ mC M 45 = t ∧ mC M 46 = t ∧ mC M 47 = t ∧ mC M 48 = t ∧ mC M 0 = t ∧ mC M 13 = t ∧ mC M 14 = t ∧ mC M 15 = t ∧ mC M 16 = t ∧ mC M 17 = t ∧ mC M 3 = 8 * t ∧ mC M 27 = 8 * t ∧ mC M 28 = 8 * t ∧ mC M 10 = 4 * t ∧ mC M 57 = 4 * t ∧ mC M 58 = 4 * t ∧ mC M 59 = 4 * t ∧ mC M 60 = 4 * t ∧ mC M 61 = 4 * t ∧ mC M 62 = 4 * t ∧ mC M 2 = 4 * t + 2 ∧ mC M 23 = 4 * t + 2 ∧ mC M 24 = 4 * t + 2 ∧ mC M 25 = 4 * t + 2 ∧ mC M 26 = 4 * t + 2)
    (hK : ∀ M', IV M' op → (∀ k, mC M' k = mC M k + cntT.count k + 8 * [28, 27, 3].count k + 4 * [26, 25, 24, 23, 2, 62, 61, 60, 59, 58, 57, 10].count k) → Unch [7, 42, 43, 44, 45, 46, 47, 48, 0, 13, 14, 15, 16, 17, 3, 27, 28, 10, 57, 58, 59, 60, 61, 62, 2, 23, 24, 25, 26] M M' → K none M') : CallS Ω false m_Text_init [vR (some (7, t))] M K := by
  obtain ⟨h0, h1, h2, h3, h4, h5, h6, h7, h8, h9, h10, h11, h12, h13, h14, h15, h16, h17, h18, h19, h20, h21, h22, h23, h24, h25, h26, h27⟩ := hc
  refine call_go (hJL rfl) (Nat.le_of_ble_eq_true rfl) (go_wp ok_Text_init [92] 200 _ _ _ _ _ _ ?_)
  conv => whnf
  repeat' (first | refine And.intro rfl (And.intro ⟨Nat.le_of_ble_eq_true rfl, Nat.le_of_ble_eq_true rfl⟩ ?_) | refine And.intro ⟨Nat.le_of_ble_eq_true rfl, Nat.le_of_ble_eq_true rfl⟩ ?_ | refine And.intro (Or.inl rfl) ?_; conv => whnf)
  refine ⟨fun v M' => v = none ∧ IV M' ((45, t) :: (42, t) :: (7, t) :: op) ∧ Cnt [17, 16, 15, 14, 13] _ M' ∧ Unch [0, 13, 14, 15, 16, 17] _ M', c_Bars_init Ω _ _ ((45, t) :: (42, t) :: (7, t) :: op) _ (IV.new ?_) Zer.new ?_ (fun M' a b c => ⟨rfl, a, b, c⟩), ⟨Nat.le_of_ble_eq_true rfl, Nat.le_of_ble_eq_true rfl⟩, ?_⟩
  · repeat' (first | exact hI | refine IV.putI ?_ (by simp) | refine IV.putR ?_ (by simp) | refine IV.newA (k := 43) ?_ (fun _ _ => ⟨rfl, rfl, rfl⟩) | refine IV.newA (k := 44) ?_ (fun _ _ => ⟨rfl, rfl, rfl⟩) | refine IV.new' (k := 45) (op := (42, t) :: (7, t) :: op) ?_ ?_ | refine IV.new' (k := 42) (op := (7, t) :: op) ?_ ?_)
    · exact h0
    · simp [mI_sI, mI_sJ, mI_sR, mI_sNew, mJ_sI, mJ_sJ, mJ_sR, mJ_sNew, mR_sI, mR_sJ, mR_sR, mR_sNew, mC_sI, mC_sJ, mC_sR, mC_sNew, h3]
  · simp [mI_sI, mI_sJ, mI_sR, mI_sNew, mJ_sI, mJ_sJ, mJ_sR, mJ_sNew, mR_sI, mR_sJ, mR_sR, mR_sNew, mC_sI, mC_sJ, mC_sR, mC_sNew, h0, h1, h2, h3, h4, h5, h6, h7, h8, h9, h10, h11, h12]
  · rintro v M' ⟨rfl, hI2, hC2, hU2⟩
    have g1 := fun s => (hU2 7 (by decide) t s).1
    have g2 := fun s => (hU2 7 (by decide) t s).2.1
    have g3 := fun s => (hU2 7 (by decide) t s).2.2
    have a1 := fun s => (hU2 42 (by decide) t s).1
    have a2 := fun s => (hU2 42 (by decide) t s).2.1
    have b1 := fun s => (hU2 45 (by decide) t s).1
    have b2 := fun s => (hU2 45 (by decide) t s).2.1
    have e46 : mC M' 46 = t := by rw [hC2 46]; simp [mI_sI, mI_sJ, mI_sR, mI_sNew, mJ_sI, mJ_sJ, mJ_sR, mJ_sNew, mR_sI, mR_sJ, mR_sR, mR_sNew, mC_sI, mC_sJ, mC_sR, mC_sNew, h4]
    have e47 : mC M' 47 = t := by rw [hC2 47]; simp [mI_sI, mI_sJ, mI_sR, mI_sNew, mJ_sI, mJ_sJ, mJ_sR, mJ_sNew, mR_sI, mR_sJ, mR_sR, mR_sNew, mC_sI, mC_sJ, mC_sR, mC_sNew, h5]
    have e48 : mC M' 48 = t := by rw [hC2 48]; simp [mI_sI, mI_sJ, mI_sR, mI_sNew, mJ_sI, mJ_sJ, mJ_sR, mJ_sNew, mR_sI, mR_sJ, mR_sR, mR_sNew, mC_sI, mC_sJ, mC_sR, mC_sNew, h6]
    have hC3 : Cnt [17, 16, 15, 14, 13, 0, 45, 44, 43, 42] M M' := by
      refine Cnt.app (ks := [0, 45, 44, 43, 42]) (ks' := [17, 16, 15, 14, 13]) ?_ hC2
      repeat' (first | exact Cnt.rfl | refine Cnt.putI ?_ | refine Cnt.putJ ?_ | refine Cnt.putR ?_ | refine Cnt.new ?_)
    have hU3 : Unch [7, 42, 43, 44, 45, 46, 47, 48, 0, 13, 14, 15, 16, 17] M M' := by
      refine Unch.trans ?_ (hU2.mono (by simp))
      repeat' (first | exact Unch.rfl | refine Unch.putI ?_ (by simp) | refine Unch.putJ ?_ (by simp) | refine Unch.putR ?_ (by simp) | refine Unch.new ?_ (by simp))
    conv => whnf
    repeat' (first | refine And.intro rfl (And.intro ⟨Nat.le_of_ble_eq_true rfl, Nat.le_of_ble_eq_true rfl⟩ ?_) | refine And.intro ⟨Nat.le_of_ble_eq_true rfl, Nat.le_of_ble_eq_true rfl⟩ ?_ | refine And.intro (Or.inl rfl) ?_; conv => whnf)
    have hfin : ∀ M2 : Mem, IV M2 ((45, t) :: (42, t) :: (7, t) :: op) → Cnt cntT M M2 → Unch [7, 42, 43, 44, 45, 46, 47, 48, 0, 13, 14, 15, 16, 17] M M2 → Fine M2 7 t → (∀ s, mI M2 42 t s = 0 ∧ mJ M2 42 t s = 0) → (∀ s, mI M2 45 t s = 0 ∧ mJ M2 45 t s = 0) → GoS Ω false m_Text_init K 92 [some (vR (some (7, t))), some (vI (nI 0))] [] M2 (13 + 3 * 0) (1149 + 19 * 0) := by
      intro M2 hI3 hC4 hU4 hF hZ1 hZ2
      have hI4 : IV M2 ((42, t) :: (45, t) :: op) := IV.close (k := 7) (i := t) (hI3.sub (fun q hq => by simp only [List.mem_cons] at hq ⊢; rcases hq with h | h | h | h <;> simp [h])) hF
      refine lp_Text1 Ω t M2 op K ⟨(hC4.at 3 rfl).trans h13, (hC4.at 27 rfl).trans h14, (hC4.at 28 rfl).trans h15⟩ (fun M3 hI5 hC5 hU5 => ?_) 8 0 M2 (Nat.zero_le _) (Nat.le_refl _) hI4 CntM.zero Unch.rfl (RowR.fromZ hZ1) (hF 0 (by decide)).2.2
      refine lp_Text2 Ω t M3 op K ⟨(hC5.at 10 rfl).trans ((hC4.at 10 rfl).trans h16), (hC5.at 57 rfl).trans ((hC4.at 57 rfl).trans h17), (hC5.at 58 rfl).trans ((hC4.at 58 rfl).trans h18), (hC5.at 59 rfl).trans ((hC4.at 59 rfl).trans h19), (hC5.at 60 rfl).trans ((hC4.at 60 rfl).trans h20), (hC5.at 61 rfl).trans ((hC4.at 61 rfl).trans h21), (hC5.at 62 rfl).trans ((hC4.at 62 rfl).trans h22), (hC5.at 2 rfl).trans ((hC4.at 2 rfl).trans h23), (hC5.at 23 rfl).trans ((hC4.at 23 rfl).trans h24), (hC5.at 24 rfl).trans ((hC4.at 24 rfl).trans h25), (hC5.at 25 rfl).trans ((hC4.at 25 rfl).trans h26), (hC5.at 26 rfl).trans ((hC4.at 26 rfl).trans h27)⟩ (fun M4 hI6 hC6 hU6 => ?_) 4 0 M3 [] (Nat.zero_le _) (Nat.le_refl _) hI5 CntM.zero Unch.rfl ?_ ?_
      · refine hK M4 hI6 (fun k => ?_) ?_
        · rw [hC6 k, hC5 k, hC4 k]
        · exact ((hU4.mono (by simp)).trans (hU5.mono (by simp))).trans (hU6.mono (by simp))
      · refine RowR.fromZ (fun s => ?_)
        rw [(hU5 45 (by decide) t s).1, (hU5 45 (by decide) t s).2.1]
        exact hZ2 s
      · rw [(hU5 7 (by decide) t 5).2.2]
        exact (hF 5 (by decide)).2.2
    refine go_c ?_ ?_ ?_ ?_ (hfin _ ?_ ?_ ?_ ?_ ?_ ?_)
    · exact Nat.le_of_ble_eq_true rfl
    · exact Nat.le_of_ble_eq_true rfl
    · exact Nat.le_of_ble_eq_true rfl
    · exact Nat.le_of_ble_eq_true rfl
    · repeat' (first | exact hI2 | refine IV.putI ?_ (by simp) | refine IV.putR ?_ (by simp) | refine IV.newA (k := 46) ?_ (fun _ _ => ⟨rfl, rfl, rfl⟩) | refine IV.newA (k := 47) ?_ (fun _ _ => ⟨rfl, rfl, rfl⟩) | refine IV.newA (k := 48) ?_ (fun _ _ => ⟨rfl, rfl, rfl⟩))
    · unfold cntT
      repeat' (first | exact hC3 | refine Cnt.putI ?_ | refine Cnt.putR ?_ | refine Cnt.new ?_)
    · repeat' (first | exact hU3 | refine Unch.putI ?_ (by simp) | refine Unch.putJ ?_ (by simp) | refine Unch.putR ?_ (by simp) | refine Unch.new ?_ (by simp))
    · 
      intro s hs
      have hs : s < 12 := hs
      rcases (show s = 0 ∨ s = 1 ∨ s = 2 ∨ s = 3 ∨ s = 4 ∨ s = 5 ∨ s = 6 ∨ s = 7 ∨ s = 8 ∨ s = 9 ∨ s = 10 ∨ s = 11 by omega) with rfl | rfl | rfl | rfl | rfl | rfl | rfl | rfl | rfl | rfl | rfl | rfl <;> (refine ⟨?_, ?_, ?_⟩ <;> first | rfl | (simp [mI_sI, mI_sJ, mI_sR, mI_sNew, mJ_sI, mJ_sJ, mJ_sR, mJ_sNew, mR_sI, mR_sJ, mR_sR, mR_sNew, mC_sI, mC_sJ, mC_sR, mC_sNew, g1, g2, g3, h0, h1, h2, h3, h4, h5, h6, h7, h8, h9, h10, h11, h12, e46, e47, e48, (hz _).1, (hz _).2.1, (hz _).2.2]; try rfl))
    · intro s
      simp [mI_sI, mI_sJ, mI_sR, mI_sNew, mJ_sI, mJ_sJ, mJ_sR, mJ_sNew, mR_sI, mR_sJ, mR_sR, mR_sNew, mC_sI, mC_sJ, mC_sR, mC_sNew, a1, a2, h0]
    · intro s
      simp [mI_sI, mI_sJ, mI_sR, mI_sNew, mJ_sI, mJ_sJ, mJ_sR, mJ_sNew, mR_sI, mR_sJ, mR_sR, mR_sNew, mC_sI, mC_sJ, mC_sR, mC_sNew, b1, b2, h3]

