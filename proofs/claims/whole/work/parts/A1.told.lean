/-! BEST, the class's: strips told; one way further -/
def wTd (k _i s : Nat) : Bool := (Nat.ble 18 k && Nat.ble k 21) || (Nat.beq k 1 && Nat.beq s 5)
def wTr4 (k _i _s : Nat) : Bool := Nat.beq k 21
/-- what is told of a strip -/
def TdI (M : Mem) (T : Tx) (w k i : Nat) : Prop := mI M 18 0 (btC k i) = nI i ∧ mI M 19 0 (btC k i) = tv (aO (T 95 (10 * w + i))) (dlo (aO (T 95 (10 * w + i)))) ∧ mI M 20 0 (btC k i) = tv (aO (T 95 (10 * w + i))) (dhi (aO (T 95 (10 * w + i)))) ∧ mI M 21 0 (btC k i) = tv (aO (T 95 (10 * w + i))) (dlo (aO (T 95 (10 * w + i))))
set_option maxHeartbeats 1000000 in
set_option maxRecDepth 8000 in
theorem c_tellStrips (Ω : Om) (M : Mem) (t w k : Nat) (T : Tx) (K : Ka) (hW : WgOK T w) (hC : ClW M t w T) (hk : k < 2 ^ wN T w) (h4 : btC k (wN T w) ≤ 4)
    (hK : ∀ M', Un wTd M M' → mI M' 1 0 5 = nI (btC k (wN T w)) → (∀ i, i < wN T w → bt k i = true → TdI M' T w k i) → K none M') : CallS Ω true m_Best_tellStrips [vR (some (1, 0)), vR (some (10, 4 * t + w)), vI (nI k)] M K := by
  obtain ⟨hn1, hn2, hn3, hst⟩ := hW.n
  have hk10 := k_1024 hk hn3
  refine call_go (hJL rfl) (Nat.le_of_ble_eq_true rfl) (go_wp ok_Best_tellStrips [7] 250 _ _ _ _ _ _ ?_)
  conv => whnf
  refine loopN (wN T w) (fun i M1 => Un wTd M M1 ∧ mI M1 1 0 5 = nI (btC k i) ∧ ∀ i', i' < i → bt k i' = true → TdI M1 T w k i') (fun i M1 => GoS Ω true m_Best_tellStrips K 7 [some (vR (some (1, 0))), some (vR (some (10, 4 * t + w))), some (vI (nI k)), some (vI (nI i))] [] M1 0 0) ?_ ?_ 0 _ (Nat.zero_le _) ⟨Un.rfl.pI rfl, mI_eq, fun i' h => absurd h (Nat.not_lt_zero _)⟩
  · rintro i M1 hi ⟨hU, h5, hA⟩ hN
    have hb := bt_i hk10 (show i < 10 by omega)
    refine go_wp ok_Best_tellStrips [7] 250 _ _ _ _ _ _ ?_
    refine And.intro (fun a => ?_) (fun _ => And.intro (fun a => absurd a (nI_ge (b := 10) (by omega) (by decide))) (fun _ => And.intro (fun a => ?_) (fun a => ?_)))
    · rw [((hU.I rfl).trans hC.1).trans hn1, nI_leI (by omega) (by omega)] at a; omega
    · have e : bt k i = false := by
        cases e : bt k i with
        | false => rfl
        | true => rw [e] at hb; exact absurd hb a
      conv => whnf
      have := hN M1 ⟨hU, by rw [btC_n e]; exact h5, fun i' h' hb' => ?_⟩
      · rw [← nI_1] at this
        exact this
      · rcases Nat.lt_succ_iff_lt_or_eq.mp h' with q | q
        · exact hA i' q hb'
        · rw [q, e] at hb'; cases hb'
    · have e : bt k i = true := by
        cases e : bt k i with
        | true => rfl
        | false =>
          rw [e] at hb
          have q : (0 : Int32) = 1 := hb.symm.trans a
          exact absurd q (by decide)
      have hlt := btC_lt hi e
      obtain ⟨g1, g2⟩ := aO_ok (hst i hi).2.2.2.1
      have hg := (dg_at g1).1
      have e60 : mI M1 60 (4 * t + w) i = sl (aO (T 95 (10 * w + i))) := ((hU.I rfl).trans (hC.2.2.2.2.1 i hi).2.2.2.1).trans g2
      generalize hc : btC k i = c at h5 hlt
      refine And.intro (fun a => ?_) (fun _ => ?_)
      · rw [h5] at a
        exact absurd a (nI_ge (b := 4) (by omega) (by decide))
      conv => whnf
      rw [h5]
      refine And.intro (vp_in_nI (by omega) (by decide)) ?_
      rw [nI_clamp (by omega)]
      conv => whnf
      refine And.intro (vp_in_nI (by omega) (by decide)) ?_
      rw [nI_clamp (by omega), mI_ne (k' := 60) rfl, e60]
      conv => whnf
      rw [mI_ne (k' := 1) rfl, h5]
      refine And.intro (vp_in_nI (by omega) (by decide)) ?_
      rw [nI_clamp (by omega), show (if (-30 : Int32) < sl (aO (T 95 (10 * w + i))) - 2 then sl (aO (T 95 (10 * w + i))) - 2 else -30) = _ from hg.1]
      conv => whnf
      refine And.intro (vp_in_nI (by omega) (by decide)) ?_
      rw [nI_clamp (by omega), mI_ne (k' := 60) rfl, mI_ne (k' := 60) rfl, e60]
      conv => whnf
      rw [mI_ne (k' := 1) rfl, mI_ne (k' := 1) rfl, h5]
      refine And.intro (vp_in_nI (by omega) (by decide)) ?_
      rw [nI_clamp (by omega), show (if sl (aO (T 95 (10 * w + i))) + 2 < (30 : Int32) then sl (aO (T 95 (10 * w + i))) + 2 else 30) = _ from hg.2]
      conv => whnf
      rw [mI_ne (k' := 1) rfl, mI_ne (k' := 1) rfl, mI_ne (k' := 1) rfl, h5]
      refine And.intro (vp_in_nI (by omega) (by decide)) ?_
      rw [nI_clamp (by omega), mI_ne (k' := 19) (k := 20) rfl, mI_eq]
      conv => whnf
      refine And.intro (vp_in_nI (by omega) (by decide)) ?_
      rw [nI_clamp (by omega)]
      conv => whnf
      rw [mI_ne (k' := 1) rfl, mI_ne (k' := 1) rfl, mI_ne (k' := 1) rfl, mI_ne (k' := 1) rfl, h5]
      have := hN (sI (sI (sI (sI (sI M1 18 0 c (nI i)) 19 0 c (tv (aO (T 95 (10 * w + i))) (dlo (aO (T 95 (10 * w + i)))))) 20 0 c (tv (aO (T 95 (10 * w + i))) (dhi (aO (T 95 (10 * w + i)))))) 21 0 c (tv (aO (T 95 (10 * w + i))) (dlo (aO (T 95 (10 * w + i)))))) 1 0 5 (nI (c + 1))) ⟨((((hU.pI rfl).pI rfl).pI rfl).pI rfl).pI rfl, ?_, fun i' h' hb' => ?_⟩
      · rw [← nI_1, ← nI_1] at this
        exact this
      · rw [mI_eq, btC_s e, hc]
      · unfold TdI
        rcases Nat.lt_succ_iff_lt_or_eq.mp h' with q | q
        · have q2 := hA i' q hb'
          have q3 : ¬ btC k i' = c := by have := btC_lt q hb'; omega
          rw [mI_ne (k := 1) rfl, mI_ne (k := 1) rfl, mI_ne (k := 1) rfl, mI_ne (k := 1) rfl]
          refine ⟨?_, ?_, ?_, ?_⟩
          · rw [mI_ne (k := 21) rfl, mI_ne (k := 20) rfl, mI_ne (k := 19) rfl, mI_sI, if_neg (fun z => q3 z.2.2)]; exact q2.1
          · rw [mI_ne (k := 21) rfl, mI_ne (k := 20) rfl, mI_sI, if_neg (fun z => q3 z.2.2), mI_ne (k := 18) rfl]; exact q2.2.1
          · rw [mI_ne (k := 21) rfl, mI_sI, if_neg (fun z => q3 z.2.2), mI_ne (k := 19) rfl, mI_ne (k := 18) rfl]; exact q2.2.2.1
          · rw [mI_sI, if_neg (fun z => q3 z.2.2), mI_ne (k := 20) rfl, mI_ne (k := 19) rfl, mI_ne (k := 18) rfl]; exact q2.2.2.2
        · rw [q, hc, mI_ne (k := 1) rfl, mI_ne (k := 1) rfl, mI_ne (k := 1) rfl, mI_ne (k := 1) rfl]
          refine ⟨?_, ?_, ?_, ?_⟩
          · rw [mI_ne (k := 21) rfl, mI_ne (k := 20) rfl, mI_ne (k := 19) rfl, mI_eq]
          · rw [mI_ne (k := 21) rfl, mI_ne (k := 20) rfl, mI_eq]
          · rw [mI_ne (k := 21) rfl, mI_eq]
          · rw [mI_eq]
  · rintro M1 ⟨hU, h5, hA⟩
    refine go_wp ok_Best_tellStrips [] 250 _ _ _ _ _ _ ?_
    refine And.intro (fun _ => ?_) (fun a => ?_)
    · exact hK M1 hU h5 hA
    · rw [((hU.I rfl).trans hC.1).trans hn1, nI_leI (by omega) (by omega)] at a; omega
/-- the way at which the class stands -/
def Trl (M : Mem) (m : Nat) (a d : Nat → Nat) : Prop := ∀ j, j < m → mI M 21 0 j = tv (a j) (d j)
set_option maxHeartbeats 1000000 in
theorem c_stepOn (Ω : Om) (M : Mem) (m : Nat) (a : Nat → Nat) (c : Nat) (K : Ka) (hm : m ≤ 4) (h5 : mI M 1 0 5 = nI m) (ha : ∀ j, j < m → a j < 61) (h19 : ∀ j, j < m → mI M 19 0 j = tv (a j) (dlo (a j))) (h20 : ∀ j, j < m → mI M 20 0 j = tv (a j) (dhi (a j)))
    (hc : c < dP (fun j => dnn (a j)) m) (hT : Trl M m a (dF (fun j => dlo (a j)) (fun j => dnn (a j)) m c))
    (hK1 : c + 1 < dP (fun j => dnn (a j)) m → ∀ M', Un wTr4 M M' → Trl M' m a (dF (fun j => dlo (a j)) (fun j => dnn (a j)) m (c + 1)) → K (some (vI 1)) M')
    (hK0 : c + 1 = dP (fun j => dnn (a j)) m → ∀ M', Un wTr4 M M' → K (some (vI 0)) M') : CallS Ω true m_Best_stepOn [vR (some (1, 0))] M K := by
  have lp : ∀ (m' c' : Nat) (M1 : Mem) (x : Int32), m' ≤ m → x = nI m' - 1 → c' < dP (fun j => dnn (a j)) m' → Un wTr4 M M1 → Trl M1 m' a (dF (fun j => dlo (a j)) (fun j => dnn (a j)) m' c') →
      (c' + 1 < dP (fun j => dnn (a j)) m' → ∀ M2, Un wTr4 M M2 → Trl M2 m' a (dF (fun j => dlo (a j)) (fun j => dnn (a j)) m' (c' + 1)) → (∀ j, m' ≤ j → mI M2 21 0 j = mI M1 21 0 j) → K (some (vI 1)) M2) →
      (c' + 1 = dP (fun j => dnn (a j)) m' → ∀ M2, Un wTr4 M M2 → K (some (vI 0)) M2) →
      GoS Ω true m_Best_stepOn K 7 [some (vR (some (1, 0))), some (vI x)] [] M1 0 0 := by
    intro m'
    induction m' with
    | zero =>
      intro c' M1 x hm' hx hc' hU _ k1 k0
      subst hx
      refine go_wp ok_Best_stepOn [] 250 _ _ _ _ _ _ ?_
      refine And.intro (fun _ => ?_) (fun q => absurd (show nI 0 - 1 < 0 by decide) q)
      refine ⟨Or.inl rfl, k0 ?_ M1 hU⟩
      have : c' < 1 := hc'
      show c' + 1 = 1
      omega
    | succ m' ih =>
      intro c' M1 x hm' hx hc' hU hT' k1 k0
      rw [nI_pred] at hx
      subst hx
      have hd := ha m' (by omega)
      obtain ⟨f1, f2, f3⟩ := dnn_ok hd
      have hdg := (dg_at hd).2.2
      have hmod := Nat.mod_lt c' f3
      have hdm := Nat.div_add_mod c' (dnn (a m'))
      rw [dP] at hc' k1 k0
      have hT0 : mI M1 21 0 m' = tv (a m') (dlo (a m') + c' % dnn (a m')) := by
        rw [hT' m' (by omega), dF]
        unfold up1
        rw [if_pos rfl]
      have hTl : ∀ j, j < m' → mI M1 21 0 j = tv (a j) (dF (fun j => dlo (a j)) (fun j => dnn (a j)) m' (c' / dnn (a m')) j) := fun j hj => by
        rw [hT' j (by omega), dF]
        unfold up1
        rw [if_neg (by omega)]
      refine go_wp ok_Best_stepOn [7] 250 _ _ _ _ _ _ ?_
      refine And.intro (fun q => absurd q (nI_pos (by omega))) (fun _ => And.intro (fun q => absurd q (nI_ge (b := 4) (by omega) (by decide))) (fun _ => ?_))
      conv => whnf
      refine And.intro (vp_in_nI (by omega) (by decide)) ?_
      conv => whnf
      refine And.intro (vp_in_nI (by omega) (by decide)) ?_
      rw [nI_clamp (by omega), hT0, (hU.I rfl).trans (h20 m' (by omega))]
      refine And.intro (fun q => ?_) (fun q => ?_)
      · -- the digit is at its end
        have q1 : ¬ tv (a m') (dlo (a m') + c' % dnn (a m')) < tv (a m') (dhi (a m')) := Int32.not_lt.mpr q
        have q2 : ¬ dlo (a m') + c' % dnn (a m') < dhi (a m') := fun z => q1 (((hdg _ (by omega)).2 _ (by omega)).mpr z)
        have q3 : c' % dnn (a m') + 1 = dnn (a m') := by omega
        conv => whnf
        refine And.intro (vp_in_nI (by omega) (by decide)) ?_
        conv => whnf
        refine And.intro (vp_in_nI (by omega) (by decide)) ?_
        rw [nI_clamp (by omega), (hU.I rfl).trans (h19 m' (by omega))]
        conv => whnf
        have q4 : c' + 1 = dnn (a m') * (c' / dnn (a m') + 1) := by rw [Nat.mul_add, Nat.mul_one]; omega
        have q5 : (c' + 1) / dnn (a m') = c' / dnn (a m') + 1 := by rw [q4, Nat.mul_div_cancel_left _ f3]
        have q6 : (c' + 1) % dnn (a m') = 0 := by rw [q4, Nat.mul_mod_right]
        have hUn : Un wTr4 M (sI M1 21 0 m' (tv (a m') (dlo (a m')))) := hU.pI rfl
        refine ih (c' / dnn (a m')) (sI M1 21 0 m' (tv (a m') (dlo (a m')))) (nI m' + -1) (by omega) (by grind) (Nat.div_lt_of_lt_mul (by rw [Nat.mul_comm]; exact hc')) hUn (fun j hj => ?_) (fun z M2 hU2 hT2 he2 => ?_) (fun z M2 hU2 => ?_)
        · rw [mI_sI, if_neg (fun q => by omega)]
          exact hTl j hj
        · refine k1 ?_ M2 hU2 (fun j hj => ?_) (fun j hj => ?_)
          · rw [q4, Nat.mul_comm (dP _ _)]
            exact Nat.mul_lt_mul_of_pos_left z f3
          · rw [dF, q5, q6]
            unfold up1
            by_cases e : j = m'
            · rw [if_pos e, e, he2 m' (Nat.le_refl _), mI_eq, Nat.add_zero]
            · rw [if_neg e]
              exact hT2 j (by omega)
          · rw [he2 j (by omega), mI_sI, if_neg (fun q => by omega)]
        · refine k0 ?_ M2 hU2
          rw [q4, z, Nat.mul_comm]
      · have q1 : tv (a m') (dlo (a m') + c' % dnn (a m')) < tv (a m') (dhi (a m')) := Int32.not_le.mp q
        have q2 : dlo (a m') + c' % dnn (a m') < dhi (a m') := ((hdg _ (by omega)).2 _ (by omega)).mp q1
        have q3 : c' % dnn (a m') + 1 < dnn (a m') := by omega
        conv => whnf
        refine And.intro (vp_in_nI (by omega) (by decide)) ?_
        rw [nI_clamp (by omega), hT0]
        conv => whnf
        refine And.intro (vp_in_nI (by omega) (by decide)) ?_
        rw [nI_clamp (by omega)]
        have q4 : c' + 1 = dnn (a m') * (c' / dnn (a m')) + (c' % dnn (a m') + 1) := by omega
        have q5 : (c' + 1) / dnn (a m') = c' / dnn (a m') := by rw [q4, Nat.mul_add_div f3, Nat.div_eq_of_lt q3, Nat.add_zero]
        have q6 : (c' + 1) % dnn (a m') = c' % dnn (a m') + 1 := by
          conv => lhs; rw [q4]
          rw [Nat.mul_add_mod, Nat.mod_eq_of_lt q3]
        refine ⟨Or.inr rfl, k1 ?_ _ (hU.pI rfl) (fun j hj => ?_) (fun j hj => ?_)⟩
        · have z : c' / dnn (a m') < dP (fun j => dnn (a j)) m' := Nat.div_lt_of_lt_mul (by rw [Nat.mul_comm]; exact hc')
          have z2 : dnn (a m') * (c' / dnn (a m') + 1) ≤ dnn (a m') * dP (fun j => dnn (a j)) m' := Nat.mul_le_mul_left _ z
          rw [Nat.mul_add, Nat.mul_one] at z2
          rw [Nat.mul_comm (dP _ _)]
          omega
        · rw [dF, q5, q6, mI_sI]
          unfold up1
          by_cases e : j = m'
          · rw [if_pos ⟨rfl, rfl, e⟩, if_pos e, e, (hdg _ (by omega)).1.1, Nat.add_assoc]
          · rw [if_neg (fun q => e q.2.2), if_neg e]
            exact hTl j (by omega)
        · rw [mI_sI, if_neg (fun q => by omega)]
  refine call_go (hJL rfl) (Nat.le_of_ble_eq_true rfl) (go_wp ok_Best_stepOn [7] 250 _ _ _ _ _ _ ?_)
  conv => whnf
  rw [h5]
  exact lp m c M (nI m - 1) (Nat.le_refl _) rfl hc Un.rfl hT (fun z M2 a b _ => hK1 z M2 a b) hK0
