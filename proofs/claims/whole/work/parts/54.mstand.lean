/-! THE MODEL SET OUT; what it keeps; its forces -/
def wSt (k _i s : Nat) : Bool := Nat.beq k 118 || (Nat.beq k 12 && (Nat.ble 71 s && Nat.ble s 79))
theorem wSt_pg : ∀ (f s : Nat), 74 ≤ f → f ≤ 108 → wSt f 0 s = false := fun f s h1 h2 => by simp [wSt, nb_d, nl_d]; omega
def hxS (b : Int32) (h : Nat → Int32) : Nat → Int32 := fun k => if b = 0 then 0 else h k
theorem c_MD_stands (Ω : Om) (M : Mem) (p w : Nat) (v s bh bg : Int32) (K : Ka) (hp : p < 4) (hw4 : w < 4) (hW : WgOK (pg M p) w) (hbh : bh = 0 ∨ bh = 1) (hbg : bg = 0 ∨ bg = 1)
    (hK : ∀ M', Un wSt M M' → ME M' p (pg M p, w, v, 0, bsS (pg M p) w s (hxS bh (pg M p 83)) (hxS bg (fun i => mI M 112 0 i)), fun _ => 0) → (∀ i, i < wN (pg M p) w → mI M' 118 0 i = pg M p 95 (10 * w + i)) → mI M' 12 0 74 = s → mI M' 12 0 78 = bh → mI M' 12 0 79 = bg → mI M' 12 0 76 = -1 → mI M' 12 0 77 = mI M 12 0 77 → K none M') :
    CallS Ω true m_MD_stands [vR (some (12, 0)), vI (nI (4 * p + w)), vI v, vI s, vI bh, vI bg] M K := by
  obtain ⟨hn1, hn2, hn3, hst⟩ := hW.n
  refine call_go (hJL rfl) (Nat.le_of_ble_eq_true rfl) (go_wp ok_MD_stands [50] 250 _ _ _ _ _ _ ?_)
  refine And.intro (vp_in_nI (by omega) (by decide)) ?_
  rw [nI_clamp (by omega)]
  conv => whnf
  refine And.intro hbh ?_
  refine And.intro hbg ?_
  conv => whnf
  have e86 : mI (sI M 12 0 71 (nI (4 * p + w))) 86 0 (4 * p + w) = nI (wN (pg M p) w) := hn1
  rw [e86]
  generalize hM1 : sI (sI (sI (sI (sI (sI (sI (sI M 12 0 71 (nI (4 * p + w))) 12 0 72 (nI (wN (pg M p) w))) 12 0 73 v) 12 0 74 s) 12 0 75 0) 12 0 76 (-1)) 12 0 78 bh) 12 0 79 bg = M1
  have hU1 : Un wSt M M1 := by
    rw [← hM1]
    exact (((((((Un.rfl.pI rfl).pI rfl).pI rfl).pI rfl).pI rfl).pI rfl).pI rfl).pI rfl
  have f1 : mI M1 12 0 71 = nI (4 * p + w) ∧ mI M1 12 0 72 = nI (wN (pg M p) w) ∧ mI M1 12 0 73 = v ∧ mI M1 12 0 74 = s ∧ mI M1 12 0 75 = 0 ∧ mI M1 12 0 76 = -1 ∧ mI M1 12 0 78 = bh ∧ mI M1 12 0 79 = bg ∧ mI M1 12 0 77 = mI M 12 0 77 := by
    rw [← hM1]
    simp [mI_sI]
  clear hM1
  refine loopN (wN (pg M p) w) (fun i M2 => Un wSt M M2 ∧ (mI M2 12 0 71 = nI (4 * p + w) ∧ mI M2 12 0 72 = nI (wN (pg M p) w) ∧ mI M2 12 0 73 = v ∧ mI M2 12 0 74 = s ∧ mI M2 12 0 75 = 0 ∧ mI M2 12 0 76 = -1 ∧ mI M2 12 0 78 = bh ∧ mI M2 12 0 79 = bg ∧ mI M2 12 0 77 = mI M 12 0 77) ∧ ∀ i', i' < i → mI M2 118 0 i' = pg M p 95 (10 * w + i'))
    (fun i M2 => GoS Ω true m_MD_stands K 50 [some (vR (some (12, 0))), some (vI (nI (4 * p + w))), some (vI v), some (vI s), some (vI bh), some (vI bg), some (vI (nI i))] [] M2 0 0) ?_ ?_ 0 M1 (Nat.zero_le _) ⟨hU1, f1, fun i' h => absurd h (Nat.not_lt_zero _)⟩
  · rintro i M2 hi ⟨hU, f, hA⟩ hN
    refine go_wp ok_MD_stands [50] 250 _ _ _ _ _ _ ?_
    refine And.intro (fun a => ?_) (fun _ => ?_)
    · rw [f.2.1, nI_leI (by omega) (by omega)] at a; omega
    conv => whnf
    rw [show (10 : Int32) = nI 10 from rfl, pk_mul, nI_add]
    refine And.intro (vp_in_nI (by omega) (by decide)) ?_
    conv => whnf
    refine And.intro (vp_in_nI (by omega) (by decide)) ?_
    rw [nI_clamp (by omega), nI_clamp (by omega), (hU.I rfl).trans (pgI (M := M) (p := p) (f := 95) (a := 10 * w + i) rfl (show 10 * (4 * p + w) + i = 40 * p + (10 * w + i) by omega))]
    have := hN (sI M2 118 0 i (pg M p 95 (10 * w + i))) ⟨hU.pI rfl, f, fun i' h' => ?_⟩
    · rw [← nI_1] at this
      exact this
    · rw [mI_sI]
      by_cases e : i' = i
      · rw [if_pos ⟨rfl, rfl, e⟩, e]
      · rw [if_neg (fun q => e q.2.2)]; exact hA i' (by omega)
  · rintro M2 ⟨hU, ⟨f1, f2, f3, f4, f5, f6, f7, f8, f9⟩, hA⟩
    have epg : pg M2 p = pg M p := pg_un hU wSt_pg p
    refine go_wp ok_MD_stands [] 250 _ _ _ _ _ _ ?_
    refine And.intro (fun _ => ?_) (fun a => ?_)
    · refine hK M2 hU ⟨⟨hp, hw4, epg.symm⟩, f1, f2, f3, f5, fun i hi => ?_, Or.inl ⟨f6, fun _ _ => rfl⟩⟩ hA f4 f7 f8 f6 f9
      show bsS (pg M p) w s (hxS bh (pg M p 83)) (hxS bg (fun i => mI M 112 0 i)) i = _
      rw [f4, hA i hi, f7, f8, epg, bsS, hxS, hxS, hU.I (k := 112) rfl]
      rfl
    · rw [f2, nI_leI (by omega) (by omega)] at a; omega
def wGm (k _i _s : Nat) : Bool := Nat.beq k 113
theorem c_MD_rests (Ω : Om) (M : Mem) (K : Ka) (hK : ∀ M', Un wGm M M' → (∀ i, i < 10 → mJ M' 113 0 i = 0) → K none M') : CallS Ω true m_MD_rests [vR (some (12, 0))] M K := by
  refine call_go (hJL rfl) (Nat.le_of_ble_eq_true rfl) (go_wp ok_MD_rests [2] 250 _ _ _ _ _ _ ?_)
  conv => whnf
  refine loopN 10 (fun i M2 => Un wGm M M2 ∧ ∀ i', i' < i → mJ M2 113 0 i' = 0) (fun i M2 => GoS Ω true m_MD_rests K 2 [some (vR (some (12, 0))), some (vI (nI i))] [] M2 0 0) ?_ ?_ 0 M (Nat.zero_le _) ⟨Un.rfl, fun i' h => absurd h (Nat.not_lt_zero _)⟩
  · rintro i M2 hi ⟨hU, hA⟩ hN
    refine go_wp ok_MD_rests [2] 250 _ _ _ _ _ _ ?_
    refine And.intro (fun a => absurd a (nI_ge (b := 10) (by omega) (by decide))) (fun _ => ?_)
    conv => whnf
    refine And.intro (vp_in_nI (by omega) (by decide)) ?_
    rw [nI_clamp (by omega)]
    have := hN (sJ M2 113 0 i 0) ⟨hU.pJ rfl, fun i' h' => ?_⟩
    · rw [← nI_1] at this
      exact this
    · rw [mJ_sJ]
      by_cases e : i' = i
      · rw [if_pos ⟨rfl, rfl, e⟩]
      · rw [if_neg (fun q => e q.2.2)]; exact hA i' (by omega)
  · rintro M2 ⟨hU, hA⟩
    refine go_wp ok_MD_rests [] 250 _ _ _ _ _ _ ?_
    exact And.intro (fun _ => hK M2 hU hA) (fun a => absurd (Int32.le_refl _) a)
theorem wGm_rm : ∀ k i s, wRm k i s = false → wGm k i s = false := by
  intro k i s h
  simp [wRm, wGm, nb_d, nl_d] at h ⊢
  omega
def wKp (W k _i s : Nat) : Bool := ((Nat.beq k 119 || Nat.beq k 120) && Nat.beq s W) || ((Nat.ble 121 k && Nat.ble k 124) && Nat.beq (s / 10) W)
/-- what is kept of a wing in the model -/
def MS (M : Mem) (W n : Nat) (v : Int32) (g d b a : Nat → Int64) : Prop := mI M 119 0 W = 1 ∧ mI M 120 0 W = v ∧ ∀ i, i < n → mJ M 121 0 (10 * W + i) = g i ∧ mJ M 122 0 (10 * W + i) = d i ∧ mJ M 123 0 (10 * W + i) = b i ∧ mJ M 124 0 (10 * W + i) = a i
theorem wKp_t {W k i : Nat} (h : 121 ≤ k ∧ k ≤ 124) (hi : i < 10) : wKp W k 0 (10 * W + i) = true := by
  simp [wKp, nb_d, nl_d]; omega
theorem c_MD_keeps2 (Ω : Om) (M : Mem) (K : Ka) (h : K (some (vI (-2))) M) : CallS Ω true m_MD_keeps [vR (some (12, 0)), vI (-2)] M K := by
  refine call_go (hJL rfl) (Nat.le_of_ble_eq_true rfl) (go_wp ok_MD_keeps [] 250 _ _ _ _ _ _ ?_)
  exact And.intro (fun a => absurd rfl a) (fun _ => h)
theorem c_MD_keeps (Ω : Om) (M : Mem) (W n : Nat) (r v : Int32) (g d b a : Nat → Int64) (K : Ka) (hr : ¬ r = -2) (hW : W < 20) (hn : n ≤ 10) (h71 : mI M 12 0 71 = nI W) (h72 : mI M 12 0 72 = nI n) (h73 : mI M 12 0 73 = v) (hF : MF M n g d b a)
    (hK : ∀ M', Un (wKp W) M M' → MS M' W n v g d b a → K (some (vI r)) M') : CallS Ω true m_MD_keeps [vR (some (12, 0)), vI r] M K := by
  refine call_go (hJL rfl) (Nat.le_of_ble_eq_true rfl) (go_wp ok_MD_keeps [34] 250 _ _ _ _ _ _ ?_)
  refine And.intro (fun _ => ?_) (fun a => absurd (Decidable.not_not.mp (fun q => q a)) hr)
  conv => whnf
  rw [h71]
  refine And.intro (vp_in_nI (by omega) (by decide)) ?_
  refine And.intro (Or.inr rfl) ?_
  rw [nI_clamp (by omega)]
  conv => whnf
  rw [show mI (sI M 119 0 W 1) 12 0 71 = nI W from h71]
  refine And.intro (vp_in_nI (by omega) (by decide)) ?_
  rw [nI_clamp (by omega), show mI (sI M 119 0 W 1) 12 0 73 = v from h73]
  conv => whnf
  have w9 : ∀ k, k = 119 ∨ k = 120 → wKp W k 0 W = true := fun k h => by simp [wKp, nb_d, nl_d]; omega
  refine loopN n (fun i M2 => Un (wKp W) M M2 ∧ (mI M2 119 0 W = 1 ∧ mI M2 120 0 W = v) ∧ ∀ i', i' < i → mJ M2 121 0 (10 * W + i') = g i' ∧ mJ M2 122 0 (10 * W + i') = d i' ∧ mJ M2 123 0 (10 * W + i') = b i' ∧ mJ M2 124 0 (10 * W + i') = a i')
    (fun i M2 => GoS Ω true m_MD_keeps K 34 [some (vR (some (12, 0))), some (vI r), some (vI (nI i))] [] M2 0 0) ?_ ?_ 0 _ (Nat.zero_le _) ⟨(Un.rfl.pI (w9 _ (Or.inl rfl))).pI (w9 _ (Or.inr rfl)), ⟨?_, ?_⟩, fun i' h => absurd h (Nat.not_lt_zero _)⟩
  · rintro i M2 hi ⟨hU, f, hA⟩ hN
    have u12 : ∀ s, wKp W 12 0 s = false := fun s => rfl
    have uF : ∀ k s, 113 ≤ k → k ≤ 117 → wKp W k 0 s = false := fun k s h1 h2 => by simp [wKp, nb_d, nl_d]; omega
    obtain ⟨q1, q2, q3, q4⟩ := hF i hi
    refine go_wp ok_MD_keeps [34] 250 _ _ _ _ _ _ ?_
    refine And.intro (fun a => ?_) (fun _ => ?_)
    · rw [(hU.I (u12 _)).trans h72, nI_leI (by omega) (by omega)] at a; omega
    conv => whnf
    refine And.intro (vp_in_nI (by omega) (by decide)) ?_
    conv => whnf
    rw [(hU.I (u12 71)).trans h71, show (10 : Int32) = nI 10 from rfl, pk_mul, nI_add]
    refine And.intro (vp_in_nI (by omega) (by decide)) ?_
    rw [nI_clamp (by omega), nI_clamp (by omega), (hU.J (uF 113 i (by decide) (by decide))).trans q1]
    conv => whnf
    refine And.intro (vp_in_nI (by omega) (by decide)) ?_
    conv => whnf
    rw [show mI (sJ M2 121 0 (10 * W + i) (g i)) 12 0 71 = nI W from (hU.I (u12 71)).trans h71, show (10 : Int32) = nI 10 from rfl, pk_mul, nI_add]
    refine And.intro (vp_in_nI (by omega) (by decide)) ?_
    rw [nI_clamp (by omega), nI_clamp (by omega), show mJ (sJ M2 121 0 (10 * W + i) (g i)) 115 0 i = d i from (hU.J (uF 115 i (by decide) (by decide))).trans q2]
    conv => whnf
    refine And.intro (vp_in_nI (by omega) (by decide)) ?_
    conv => whnf
    rw [show mI (sJ (sJ M2 121 0 (10 * W + i) (g i)) 122 0 (10 * W + i) (d i)) 12 0 71 = nI W from (hU.I (u12 71)).trans h71, show (10 : Int32) = nI 10 from rfl, pk_mul, nI_add]
    refine And.intro (vp_in_nI (by omega) (by decide)) ?_
    rw [nI_clamp (by omega), nI_clamp (by omega), show mJ (sJ (sJ M2 121 0 (10 * W + i) (g i)) 122 0 (10 * W + i) (d i)) 116 0 i = b i from (hU.J (uF 116 i (by decide) (by decide))).trans q3]
    conv => whnf
    refine And.intro (vp_in_nI (by omega) (by decide)) ?_
    conv => whnf
    rw [show mI (sJ (sJ (sJ M2 121 0 (10 * W + i) (g i)) 122 0 (10 * W + i) (d i)) 123 0 (10 * W + i) (b i)) 12 0 71 = nI W from (hU.I (u12 71)).trans h71, show (10 : Int32) = nI 10 from rfl, pk_mul, nI_add]
    refine And.intro (vp_in_nI (by omega) (by decide)) ?_
    rw [nI_clamp (by omega), nI_clamp (by omega), show mJ (sJ (sJ (sJ M2 121 0 (10 * W + i) (g i)) 122 0 (10 * W + i) (d i)) 123 0 (10 * W + i) (b i)) 117 0 i = a i from (hU.J (uF 117 i (by decide) (by decide))).trans q4]
    have := hN (sJ (sJ (sJ (sJ M2 121 0 (10 * W + i) (g i)) 122 0 (10 * W + i) (d i)) 123 0 (10 * W + i) (b i)) 124 0 (10 * W + i) (a i)) ⟨?_, f, fun i' h' => ?_⟩
    · rw [← nI_1] at this
      exact this
    · exact (((hU.pJ (wKp_t (by omega) (by omega))).pJ (wKp_t (by omega) (by omega))).pJ (wKp_t (by omega) (by omega))).pJ (wKp_t (by omega) (by omega))
    · by_cases e : i' = i
      · subst e
        refine ⟨?_, ?_, ?_, ?_⟩ <;> simp [mJ_sJ]
      · have e2 : ¬ 10 * W + i' = 10 * W + i := by omega
        obtain ⟨z1, z2, z3, z4⟩ := hA i' (by omega)
        refine ⟨?_, ?_, ?_, ?_⟩ <;> simp [mJ_sJ, e, z1, z2, z3, z4]
  · rintro M2 ⟨hU, f, hA⟩
    refine go_wp ok_MD_keeps [] 250 _ _ _ _ _ _ ?_
    refine And.intro (fun _ => ?_) (fun a => ?_)
    · conv => whnf
      exact hK M2 hU ⟨f.1, f.2, hA⟩
    · rw [(hU.I (show wKp W 12 0 72 = false from rfl)).trans h72, nI_leI (by omega) (by omega)] at a; omega
  · rw [mI_sI, if_neg (fun q => absurd q.1 (by decide)), mI_sI, if_pos ⟨rfl, rfl, rfl⟩]
  · rw [mI_sI, if_pos ⟨rfl, rfl, rfl⟩]
theorem c_MD_flift (Ω : Om) (M : Mem) (n : Nat) (v : Int32) (g : Nat → Int64) (K : Ka) (hn : n ≤ 10) (h72 : mI M 12 0 72 = nI n) (h73 : mI M 12 0 73 = v) (hG : ∀ i, i < n → mJ M 113 0 i = g i) (h : K (some (vJ (liS n v g))) M) : CallS Ω true m_MD_forceNow [vR (some (12, 0)), vI 0] M K := by
  refine call_go (hJL rfl) (Nat.le_of_ble_eq_true rfl) (go_wp ok_MD_forceNow [8] 250 _ _ _ _ _ _ ?_)
  conv => whnf
  refine upN n (fun j => GoS Ω true m_MD_forceNow K 8 [some (vR (some (12, 0))), some (vI 0), some (vJ (sm g j)), none, some (vJ 0), none, some (vI (nI j))] [] M 0 0) ?_ ?_ 0 (Nat.zero_le _)
  · intro j hj hN
    refine go_wp ok_MD_forceNow [8] 250 _ _ _ _ _ _ ?_
    refine And.intro (fun a => ?_) (fun _ => ?_)
    · rw [h72, nI_leI (by omega) (by omega)] at a; omega
    conv => whnf
    refine And.intro (fun a => absurd rfl a) (fun _ => ?_)
    conv => whnf
    refine And.intro (vp_in_nI (by omega) (by decide)) ?_
    rw [nI_clamp (by omega), hG j hj]
    conv => whnf
    refine And.intro (fun _ => ?_) (fun a => absurd a (by decide))
    rw [sm, ← nI_1] at hN
    exact hN
  · refine go_wp ok_MD_forceNow [] 250 _ _ _ _ _ _ ?_
    refine And.intro (fun _ => ?_) (fun a => ?_)
    · refine And.intro (fun _ => ?_) (fun a => absurd a (by decide))
      refine And.intro (show ¬ (100 : Int64) = 0 by decide) ?_
      conv => whnf
      rw [h73]
      exact h
    · rw [h72, nI_leI (by omega) (by omega)] at a; omega
theorem c_MD_fturn (Ω : Om) (M : Mem) (n : Nat) (v : Int32) (g : Nat → Int64) (K : Ka) (hn : n ≤ 10) (h72 : mI M 12 0 72 = nI n) (h73 : mI M 12 0 73 = v) (hG : ∀ i, i < n → mJ M 113 0 i = g i) (h : K (some (vJ (tuS n v g))) M) : CallS Ω true m_MD_forceNow [vR (some (12, 0)), vI 2] M K := by
  refine call_go (hJL rfl) (Nat.le_of_ble_eq_true rfl) (go_wp ok_MD_forceNow [8] 250 _ _ _ _ _ _ ?_)
  conv => whnf
  refine upN n (fun j => GoS Ω true m_MD_forceNow K 8 [some (vR (some (12, 0))), some (vI 2), some (vJ (sm (fun i => g i * (2 * (nI i).toInt64 + 1 - (nI n).toInt64)) j)), none, some (vJ 0), none, some (vI (nI j))] [] M 0 0) ?_ ?_ 0 (Nat.zero_le _)
  · intro j hj hN
    refine go_wp ok_MD_forceNow [8] 250 _ _ _ _ _ _ ?_
    refine And.intro (fun a => ?_) (fun _ => ?_)
    · rw [h72, nI_leI (by omega) (by omega)] at a; omega
    conv => whnf
    refine And.intro (fun _ => ?_) (fun a => absurd a (by decide))
    refine And.intro (fun _ => ?_) (fun a => absurd a (by decide))
    conv => whnf
    refine And.intro (vp_in_nI (by omega) (by decide)) ?_
    rw [nI_clamp (by omega), hG j hj]
    conv => whnf
    rw [h72]
    refine And.intro (fun _ => ?_) (fun a => absurd a (by decide))
    rw [sm, ← nI_1] at hN
    exact hN
  · refine go_wp ok_MD_forceNow [] 250 _ _ _ _ _ _ ?_
    refine And.intro (fun _ => ?_) (fun a => ?_)
    · refine And.intro (fun _ => ?_) (fun a => absurd a (by decide))
      refine And.intro (show ¬ (100 : Int64) = 0 by decide) ?_
      conv => whnf
      rw [h73]
      exact h
    · rw [h72, nI_leI (by omega) (by omega)] at a; omega
theorem c_MD_fdrag (Ω : Om) (M : Mem) (p w : Nat) (v : Int32) (g d a : Nat → Int64) (K : Ka) (hp : p < 4) (hw4 : w < 4) (hW : WgOK (pg M p) w) (h71 : mI M 12 0 71 = nI (4 * p + w)) (h72 : mI M 12 0 72 = nI (wN (pg M p) w)) (h73 : mI M 12 0 73 = v) (hG : ∀ i, i < wN (pg M p) w → mJ M 113 0 i = g i ∧ mJ M 115 0 i = d i ∧ mJ M 117 0 i = a i) (h : K (some (vJ (drS (pg M p) w (wN (pg M p) w) v g d a))) M) : CallS Ω true m_MD_forceNow [vR (some (12, 0)), vI 1] M K := by
  obtain ⟨hn1, hn2, hn3, hst⟩ := hW.n
  refine call_go (hJL rfl) (Nat.le_of_ble_eq_true rfl) (go_wp ok_MD_forceNow [8] 250 _ _ _ _ _ _ ?_)
  conv => whnf
  refine upN (wN (pg M p) w) (fun j => GoS Ω true m_MD_forceNow K 8 [some (vR (some (12, 0))), some (vI 1), some (vJ (sm (fun i => g i * d i) j)), none, some (vJ (sm (fun i => (pg M p 92 (10 * w + i)).toInt64 * lwT (pg M p) (pg M p 94 (10 * w + i)).toNatClampNeg (a i)) j)), none, some (vI (nI j))] [] M 0 0) ?_ ?_ 0 (Nat.zero_le _)
  · intro j hj hN
    obtain ⟨q1, q2, q3⟩ := hG j hj
    obtain ⟨-, -, ⟨k, hk, ek, hLk⟩, -⟩ := hst j hj
    obtain ⟨e77, hLO⟩ := hLk.n
    refine go_wp ok_MD_forceNow [8] 250 _ _ _ _ _ _ ?_
    refine And.intro (fun a => ?_) (fun _ => ?_)
    · rw [h72, nI_leI (by omega) (by omega)] at a; omega
    refine And.intro (fun _ => ?_) (fun a => absurd a (by decide))
    refine And.intro (fun a => absurd rfl a) (fun _ => ?_)
    conv => whnf
    refine And.intro (vp_in_nI (by omega) (by decide)) ?_
    conv => whnf
    refine And.intro (vp_in_nI (by omega) (by decide)) ?_
    rw [nI_clamp (by omega), q1, q2]
    refine And.intro (fun a => absurd rfl a) (fun _ => ?_)
    conv => whnf
    rw [h71, show (10 : Int32) = nI 10 from rfl, pk_mul, nI_add]
    refine And.intro (vp_in_nI (by omega) (by decide)) ?_
    refine And.intro (show ¬ (4 : Int32) = 0 by decide) ?_
    conv => whnf
    rw [h71, show (10 : Int32) = nI 10 from rfl, pk_mul, nI_add]
    refine And.intro (vp_in_nI (by omega) (by decide)) ?_
    conv => whnf
    refine And.intro (vp_in_nI (by omega) (by decide)) ?_
    rw [nI_clamp (by omega), nI_clamp (by omega), q3, pgI (M := M) (p := p) (f := 92) (a := 10 * w + j) rfl (show 10 * (4 * p + w) + j = 40 * p + (10 * w + j) by omega), pgI (M := M) (p := p) (f := 94) (a := 10 * w + j) rfl (show 10 * (4 * p + w) + j = 40 * p + (10 * w + j) by omega), ek, show (4 : Int32) = nI 4 from rfl, pk_div (by omega) (by omega) (by omega), show (8 : Int32) = nI 8 from rfl, pk_mul, nI_add, show 8 * ((4 * p + w) / 4) + k = 8 * p + k by omega]
    refine cl_use (fun K h => c_valueOf Ω M (8 * p + k) _ _ _ (a j) K hLO (by omega) ?_ (fun j hj => ?_) (fun j hj => ?_) h) trivial ?_
    · rw [← e77]; exact pgI rfl rfl
    · show _ = pg M p 78 (8 * k + j)
      exact pgI rfl (by show _ = 64 * p + _; omega)
    · show _ = pg M p 79 (8 * k + j)
      exact pgI rfl (by show _ = 64 * p + _; omega)
    rw [sm, sm, ← nI_1, ek, nI_clamp (by omega)] at hN
    exact hN
  · refine go_wp ok_MD_forceNow [] 250 _ _ _ _ _ _ ?_
    refine And.intro (fun _ => ?_) (fun a => ?_)
    · refine And.intro (fun a => absurd rfl a) (fun _ => ?_)
      refine And.intro (show ¬ (57 : Int64) = 0 by decide) ?_
      refine And.intro (show ¬ (100 : Int64) = 0 by decide) ?_
      conv => whnf
      rw [h73]
      exact h
    · rw [h72, nI_leI (by omega) (by omega)] at a; omega
