/-! READ: tokens, the model's, II -/
def wTb (k _i s : Nat) : Bool := (Nat.ble 69 k && Nat.ble k 72) || (Nat.beq k 12 && Nat.beq s 10)
def tkM (M : Mem) (i kd_ p : Nat) (v : Int32) (nm : Int64) : Mem := sI (sJ (sI (sI (sI M 69 0 i (nI kd_)) 70 0 i (nI p)) 71 0 i v) 72 0 i nm) 12 0 10 (nI (i + 1))
theorem tkM_un {M : Mem} {i kd_ p : Nat} {v : Int32} {nm : Int64} : Un wTb M (tkM M i kd_ p v nm) := ((((Un.rfl.pI rfl).pI rfl).pI rfl).pJ rfl).pI rfl
theorem tkM_at {M : Mem} {i kd_ p : Nat} {v : Int32} {nm : Int64} : mI (tkM M i kd_ p v nm) 69 0 i = nI kd_ ∧ mI (tkM M i kd_ p v nm) 70 0 i = nI p ∧ mI (tkM M i kd_ p v nm) 71 0 i = v ∧ mJ (tkM M i kd_ p v nm) 72 0 i = nm ∧ mI (tkM M i kd_ p v nm) 12 0 10 = nI (i + 1) := by
  unfold tkM
  refine ⟨?_, ?_, ?_, ?_, mI_eq⟩
  · rw [mI_ne rfl, mI_sJ, mI_ne rfl, mI_ne rfl, mI_eq]
  · rw [mI_ne rfl, mI_sJ, mI_ne rfl, mI_eq]
  · rw [mI_ne rfl, mI_sJ, mI_eq]
  · rw [mJ_sI, mJ_sJ, if_pos ⟨rfl, rfl, rfl⟩]
theorem tkM_ne {M : Mem} {i kd_ p : Nat} {v : Int32} {nm : Int64} {k j : Nat} (hj : ¬ j = i) (hk : ¬ k = 12) : mI (tkM M i kd_ p v nm) k 0 j = mI M k 0 j ∧ mJ (tkM M i kd_ p v nm) k 0 j = mJ M k 0 j := by
  unfold tkM
  rw [mI_sI, if_neg (fun q => hk q.1), mI_sJ, mI_sI, if_neg (fun q => hj q.2.2), mI_sI, if_neg (fun q => hj q.2.2), mI_sI, if_neg (fun q => hj q.2.2), mJ_sI, mJ_sJ, if_neg (fun q => hj q.2.2), mJ_sI, mJ_sI, mJ_sI]
  exact ⟨rfl, rfl⟩
set_option maxHeartbeats 1000000 in
theorem c_MD_sign (Ω : Om) (M : Mem) (B : Nat → Nat) (n a i : Nat) (K : Ka) (hn : n ≤ 2000) (ha : a < n) (hB : ∀ j, j < n → B j < 256) (hi : i < 503) (h10 : mI M 12 0 10 = nI i)
    (hK : K (some (vI (nI (sgL (B a) (Nat.ble (a + 2) n && Nat.beq (B (a + 1)) 61))))) (tkM M i (mkK (sgK (B a) (Nat.ble (a + 2) n && Nat.beq (B (a + 1)) 61))) a 0 0)) :
    CallS Ω true m_MD_sign [vR (some (12, 0)), vI (nI a), vI (nI (B a)), vI (bZ B n (a + 1))] M K := by
  have hc := hB a ha
  generalize he : (Nat.ble (a + 2) n && Nat.beq (B (a + 1)) 61) = e at hK
  have eA : bZ B n (a + 1) = 61 ↔ e = true := by
    rw [← he]
    unfold bZ
    by_cases c : a + 1 < n
    · rw [if_pos c, Nat.ble_eq.mpr (show a + 2 ≤ n by omega), Bool.true_and, nb_d, decide_eq_true_eq]
      exact nI_eq (by have := hB (a + 1) c; omega) (b := 61) (by decide)
    · rw [if_neg c, show Nat.ble (a + 2) n = false from Bool.eq_false_iff.mpr (fun q => by have := Nat.le_of_ble_eq_true q; omega)]
      exact ⟨fun q => absurd q (by decide), fun q => by cases q⟩
  generalize bZ B n (a + 1) = d at eA
  generalize B a = c at hK hc
  have fin : ∀ (two k : Nat), two < 100 → k = mkK (sgK c e) → (if 0 < two then 2 else 1) = sgL c e → GoS Ω true m_MD_sign K 186 [some (vR (some (12, 0))), some (vI (nI a)), some (vI (nI c)), some (vI d), some (vI (nI two)), some (vI (nI k))] [] M 0 0 := by
    rintro two k h2 rfl hl
    refine go_wp ok_MD_sign [] 250 _ _ _ _ _ _ ?_
    conv => whnf
    refine cl_use (fun K h => c_MD_token Ω M i _ _ 0 0 K hi h10 h) trivial ?_
    rw [← hl] at hK
    refine And.intro (fun q => ?_) (fun q => ?_)
    · have q : nI two ≤ nI 0 := q
      rw [nI_leI (by omega) (by omega)] at q
      rw [if_neg (by omega)] at hK
      exact hK
    · have q : ¬ nI two ≤ nI 0 := q
      rw [nI_leI (by omega) (by omega)] at q
      rw [if_pos (by omega)] at hK
      exact hK
  have two : ∀ (t : Nat), t = 11 ∨ t = 12 ∨ t = 14 → t = mkK (sgK c e) → sgL c e = 2 → GoS Ω true m_MD_sign K 44 [some (vR (some (12, 0))), some (vI (nI a)), some (vI (nI c)), some (vI d), none, none] [vI (nI t)] M 0 0 := by
    intro t ht hk hl
    refine go_wp ok_MD_sign [186] 250 _ _ _ _ _ _ ?_
    refine And.intro (fun q => ?_) (fun q => ?_)
    · have q : nI t ≤ nI 0 := q
      rw [nI_leI (by omega) (by omega)] at q
      omega
    · conv => whnf
      exact fin t t (by omega) hk (by rw [if_pos (by omega), hl])
  have none2 : ¬ (e = true ∧ (c = 61 ∨ c = 33 ∨ c = 60)) → GoS Ω true m_MD_sign K 44 [some (vR (some (12, 0))), some (vI (nI a)), some (vI (nI c)), some (vI d), none, none] [vI (nI 0)] M 0 0 := by
    intro hz
    have hl : (if 0 < 0 then 2 else 1) = sgL c e := by unfold sgL; rw [if_neg hz]; rfl
    have eqv : ∀ v, v < 256 → nI c = nI v → c = v := fun v hv q => (nI_eq (by omega) (by omega)).mp q
    refine go_wp ok_MD_sign [186] 250 _ _ _ _ _ _ ?_
    refine And.intro (fun _ => ?_) (fun q => absurd (show nI 0 ≤ 0 by decide) q)
    refine And.intro (fun q1 => ?_) (fun q => ?_)
    rotate_left
    · have q := eqv 59 (by decide) q
      conv => whnf
      exact fin 0 4 (by decide) (by subst q; cases e <;> rfl) hl
    refine And.intro (fun q2 => ?_) (fun q => ?_)
    rotate_left
    · have q := eqv 40 (by decide) q
      conv => whnf
      exact fin 0 6 (by decide) (by subst q; cases e <;> rfl) hl
    refine And.intro (fun q3 => ?_) (fun q => ?_)
    rotate_left
    · have q := eqv 41 (by decide) q
      conv => whnf
      exact fin 0 7 (by decide) (by subst q; cases e <;> rfl) hl
    refine And.intro (fun q4 => ?_) (fun q => ?_)
    rotate_left
    · have q := eqv 43 (by decide) q
      conv => whnf
      exact fin 0 8 (by decide) (by subst q; cases e <;> rfl) hl
    refine And.intro (fun q5 => ?_) (fun q => ?_)
    rotate_left
    · have q := eqv 45 (by decide) q
      conv => whnf
      exact fin 0 9 (by decide) (by subst q; cases e <;> rfl) hl
    refine And.intro (fun q6 => ?_) (fun q => ?_)
    rotate_left
    · have q := eqv 42 (by decide) q
      conv => whnf
      exact fin 0 10 (by decide) (by subst q; cases e <;> rfl) hl
    refine And.intro (fun q7 => ?_) (fun q => ?_)
    rotate_left
    · have q := eqv 60 (by decide) q
      conv => whnf
      exact fin 0 13 (by decide) (by
        cases e with
        | true => exact absurd ⟨rfl, Or.inr (Or.inr q)⟩ hz
        | false => subst q; rfl) hl
    refine And.intro (fun q8 => ?_) (fun q => ?_)
    rotate_left
    · have q := eqv 47 (by decide) q
      conv => whnf
      exact fin 0 15 (by decide) (by subst q; cases e <;> rfl) hl
    refine And.intro (fun q9 => ?_) (fun q => ?_)
    rotate_left
    · have q := eqv 58 (by decide) q
      conv => whnf
      exact fin 0 5 (by decide) (by subst q; cases e <;> rfl) hl
    refine And.intro (fun q10 => ?_) (fun q => ?_)
    rotate_left
    · have q := eqv 44 (by decide) q
      conv => whnf
      exact fin 0 16 (by decide) (by subst q; cases e <;> rfl) hl
    conv => whnf
    refine fin 0 3 (by decide) ?_ hl
    cases e with
    | false =>
      by_cases c61 : c = 61
      · rw [c61]; rfl
      by_cases c33 : c = 33
      · rw [c33]; rfl
      rw [sgK_no (fun v hv q => by
        rcases hv with rfl | rfl | rfl | rfl | rfl | rfl | rfl | rfl | rfl | rfl | rfl | rfl <;> subst q <;> first
          | exact c61 rfl
          | exact c33 rfl
          | exact q7 rfl
          | exact q2 rfl
          | exact q3 rfl
          | exact q6 rfl
          | exact q4 rfl
          | exact q10 rfl
          | exact q5 rfl
          | exact q8 rfl
          | exact q9 rfl
          | exact q1 rfl)]
      rfl
    | true =>
      rw [sgK_no (fun v hv q => by
        rcases hv with rfl | rfl | rfl | rfl | rfl | rfl | rfl | rfl | rfl | rfl | rfl | rfl <;> subst q <;> first
          | exact hz ⟨rfl, Or.inl rfl⟩
          | exact hz ⟨rfl, Or.inr (Or.inl rfl)⟩
          | exact hz ⟨rfl, Or.inr (Or.inr rfl)⟩
          | exact q2 rfl
          | exact q3 rfl
          | exact q6 rfl
          | exact q4 rfl
          | exact q10 rfl
          | exact q5 rfl
          | exact q8 rfl
          | exact q9 rfl
          | exact q1 rfl)]
      rfl
  refine call_go (hJL rfl) (Nat.le_of_ble_eq_true rfl) (go_wp ok_MD_sign [44] 250 _ _ _ _ _ _ ?_)
  refine And.intro (fun q => ?_) (fun q => ?_)
  · have ee := eA.mp q
    refine And.intro (fun q1 => ?_) (fun q1 => ?_)
    rotate_left
    · have q1 : c = 61 := (nI_eq (by omega) (b := 61) (by decide)).mp q1
      conv => whnf
      exact two 11 (by omega) (by rw [q1, ee]; rfl) (by rw [q1, ee]; rfl)
    refine And.intro (fun q2 => ?_) (fun q2 => ?_)
    rotate_left
    · have q2 : c = 33 := (nI_eq (by omega) (b := 33) (by decide)).mp q2
      conv => whnf
      exact two 12 (by omega) (by rw [q2, ee]; rfl) (by rw [q2, ee]; rfl)
    refine And.intro (fun q3 => ?_) (fun q3 => ?_)
    rotate_left
    · have q3 : c = 60 := (nI_eq (by omega) (b := 60) (by decide)).mp q3
      conv => whnf
      exact two 14 (by omega) (by rw [q3, ee]; rfl) (by rw [q3, ee]; rfl)
    conv => whnf
    refine none2 (fun z => ?_)
    rcases z.2 with rfl | rfl | rfl
    · exact q1 rfl
    · exact q2 rfl
    · exact q3 rfl
  · conv => whnf
    exact none2 (fun z => q (eA.mpr z.1))
