/-! TRIMS, the model's -/
def wQm (k i s : Nat) : Bool := wRm k i s || wSt k i s
theorem wQm_rm : ∀ k i s, wQm k i s = false → wRm k i s = false := fun k i s h => (Bool.or_eq_false_iff.mp h).1
theorem wQm_st : ∀ k i s, wQm k i s = false → wSt k i s = false := fun k i s h => (Bool.or_eq_false_iff.mp h).2
/-- as mr3, with what is touched told more finely -/
theorem mr4 (Ω : Om) (M : Mem) (p w : Nat) (v s bh : Int32) (ha : Nat → Int32) (hp : p < 4) (hw4 : w < 4) (hW : WgOK (pg M p) w) (hbh : bh = 0 ∨ bh = 1) (hha : hxS bh (pg M p 83) = ha) (N : Mem → Prop)
    (hN : ∀ M', Un wQm M M' → Un wX M M' → (¬ rnR (evR (pg M p) w v s ha) z0 = -2 → MF M' (wN (pg M p) w) (rnG (evR (pg M p) w v s ha) z0) (dnS (evR (pg M p) w v s ha) (rnG (evR (pg M p) w v s ha) z0)) (bnS (evR (pg M p) w v s ha) (rnG (evR (pg M p) w v s ha) z0)) (anS (evR (pg M p) w v s ha) (rnG (evR (pg M p) w v s ha) z0))) → mI M' 12 0 71 = nI (4 * p + w) → mI M' 12 0 72 = nI (wN (pg M p) w) → mI M' 12 0 73 = v → N M') :
    ∃ K0 : Ka, CallS Ω true m_MD_stands [vR (some (12, 0)), vI (nI (4 * p + w)), vI v, vI s, vI bh, vI 0] M K0 ∧ True ∧ ∀ r M1, K0 r M1 → r = none ∧
    ∃ K1 : Ka, CallS Ω true m_MD_rests [vR (some (12, 0))] M1 K1 ∧ True ∧ ∀ r M2, K1 r M2 → r = none ∧
    (∃ K2 : Ka, CallS Ω true m_MD_rounds [vR (some (12, 0))] M2 K2 ∧ True ∧ ∀ r M3, K2 r M3 → r = some (vI (rnR (evR (pg M p) w v s ha) z0)) ∧ N M3) := by
  have hn3 := hW.n.2.2.1
  refine ⟨fun r M' => r = none ∧ Un wSt M M' ∧ ME M' p (evR (pg M p) w v s ha), c_MD_stands Ω M p w v s bh 0 _ hp hw4 hW hbh (Or.inl rfl) (fun M' p1 p2 p3 _ _ _ _ _ => ⟨rfl, p1, ?_⟩), trivial, ?_⟩
  · rw [hha, hxS0] at p2
    exact p2
  rintro r M1 ⟨rfl, hU1, hE1⟩
  refine ⟨rfl, fun r M' => r = none ∧ Un wGm M1 M' ∧ (∀ i, i < 10 → mJ M' 113 0 i = 0), c_MD_rests Ω M1 _ (fun M' a b => ⟨rfl, a, b⟩), trivial, ?_⟩
  rintro r M2 ⟨rfl, hU2, h113⟩
  have hE2 := hE1.un (hU2.mono wGm_rm)
  refine ⟨rfl, fun r M' => r = some (vI (rnR (evR (pg M p) w v s ha) z0)) ∧ Un wRm M2 M' ∧ (¬ rnR (evR (pg M p) w v s ha) z0 = -2 → MF M' (wN (pg M p) w) (rnG (evR (pg M p) w v s ha) z0) (dnS (evR (pg M p) w v s ha) (rnG (evR (pg M p) w v s ha) z0)) (bnS (evR (pg M p) w v s ha) (rnG (evR (pg M p) w v s ha) z0)) (anS (evR (pg M p) w v s ha) (rnG (evR (pg M p) w v s ha) z0))), c_MD_rounds Ω M2 p (evR (pg M p) w v s ha) z0 _ hE2 (evR_ok hW) (fun i hi => h113 i (by have : i < wN (pg M p) w := hi; omega)) (fun M' a b => ⟨rfl, a, b⟩), trivial, ?_⟩
  rintro r M3 ⟨rfl, hU3, hF⟩
  have hE3 := hE2.un hU3
  exact ⟨rfl, hN M3 (((hU1.mono wQm_st).trans (hU2.mono (fun k i s h => wGm_rm k i s (wQm_rm k i s h)))).trans (hU3.mono wQm_rm)) (((hU1.mono sc_St).trans (hU2.mono sc_Gm)).trans (hU3.mono sc_Rm)) hF hE3.2.1 hE3.2.2.1 hE3.2.2.2.1⟩
theorem sl_le {k : Nat} (h : k < 61) : ¬ (30 : Int32) < sl k := by
  intro q
  have := Int32.lt_iff_toInt_lt.mp q
  rw [sl_i (by omega), show (30 : Int32).toInt = 30 from rfl] at this
  omega
theorem sl_ne {k : Nat} (h : 0 < k) (h2 : k < 100) : ¬ sl k = -30 := by
  intro q
  have := congrArg Int32.toInt q
  rw [sl_i h2, show (-30 : Int32).toInt = -30 from rfl] at this
  omega
theorem sl_0 : sl 0 = -30 := by decide
def TrM (M : Mem) (l : List (Nat × Bool)) : Prop := mI M 12 0 92 = nI l.length ∧ ∀ k, k < l.length → mI M 130 0 k = sl (l.getD k (0, false)).1 ∧ mI M 131 0 k = bI (l.getD k (0, false)).2
/-- what the model knows of the slants before the k-th -/
def TrK (M : Mem) (L : Nat → Int64) (wt : Int64) (k : Nat) : Prop := TrM M (tfS L wt (k - 1)) ∧ ∀ j, k = j + 1 → mI M 129 0 j = bI (!(decide (L j = -1000000000000))) ∧ (¬ L j = -1000000000000 → mJ M 128 0 j = L j)
theorem dne (a : Int64) : decide ¬a = -1000000000000 ↔ ¬ a = -1000000000000 := by simp
set_option maxRecDepth 8000 in
theorem c_MD_trimsOf (Ω : Om) (M : Mem) (nt : Nat) (o : Option Nat) (x : Int32) (t w : Nat) (v wt : Int32) (K : Ka) (a2 : HdM M nt o) (ht : t < nt) (hY : RwY M o x t w) (hv : inR 1 40 v = true)
    (hK : ∀ M', Un wX M M' → TrM M' (tfS (trL M t w v) wt.toInt64 60) → K (some (vI 1)) M') : CallS Ω true m_MD_trimsOf [vR (some (12, 0)), vI x, vI v, vI wt] M K := by
  have hnt := a2.1
  have hw4 := hY.w4
  have hW := hY.ok.1
  have hn3 := hW.n.2.2.1
  have hv' : 1 ≤ v.toInt ∧ v.toInt ≤ 40 := by
    obtain ⟨q1, q2⟩ := inR_t.mp hv
    exact ⟨Int32.le_iff_toInt_le.mp q1, Int32.le_iff_toInt_le.mp q2⟩
  generalize hL : trL M t w v = L at hK
  have hLk : ∀ k, L k = rL (pg M t) w v (sl k) (pg M t 83) := fun k => by rw [← hL]; rfl
  refine call_go (hJL rfl) (Nat.le_of_ble_eq_true rfl) (go_wp ok_MD_trimsOf [31] 250 _ _ _ _ _ _ ?_)
  conv => whnf
  refine cl_use (fun K h => c_MD_rowY Ω M nt t w o x K a2 hY h) trivial ?_
  refine And.intro (fun a => absurd a (nI_nm1 (by omega))) (fun _ => ?_)
  conv => whnf
  refine cl_use (fun K h => c_MD_isSpeed Ω _ v K h) trivial ?_
  rw [hv]
  refine And.intro (fun _ => ?_) (fun a => absurd a (by decide))
  conv => whnf
  refine loopN 61 (fun k M2 => Un wX M M2 ∧ TrK M2 L wt.toInt64 k) (fun k M2 => ∀ r6 r7 : Option Vl, GoS Ω true m_MD_trimsOf K 31 [some (vR (some (12, 0))), some (vI x), some (vI v), some (vI wt), some (vI (nI (4 * t + w))), some (vI (sl k)), r6, r7] [] M2 0 0) ?_ ?_ 0 _ (Nat.zero_le _) ⟨Un.rfl.pI rfl, ⟨?_, fun k hk => absurd hk (Nat.not_lt_zero _)⟩, fun j hj => absurd hj (by omega)⟩ none none
  · rintro k M2 hk ⟨hU, hT, hB⟩ hN r6 r7
    have ep := pg_av hU wX_tx t
    refine go_wp ok_MD_trimsOf [76] 250 _ _ _ _ _ _ ?_
    refine And.intro (fun a => absurd a (sl_le hk)) (fun _ => ?_)
    conv => whnf
    have hq := mr4 Ω M2 t w v (sl k) 1 (pg M t 83) (by omega) hw4 (by rw [ep]; exact hW) (Or.inr rfl) (by rw [ep]; exact funext fun k => hxS1 _ k) (fun M' => Un wQm M2 M' ∧ Un wX M2 M' ∧ mI M' 12 0 72 = nI (wN (pg M t) w) ∧ mI M' 12 0 73 = v ∧ (¬ rnR (evR (pg M t) w v (sl k) (pg M t 83)) z0 = -2 → ∀ i, i < wN (pg M t) w → mJ M' 113 0 i = rnG (evR (pg M t) w v (sl k) (pg M t 83)) z0 i)) (fun M' q1 q2 q3 q4 q5 q6 => ⟨q1, q2, by rw [ep] at q5; exact q5, q6, fun z i hi => by rw [ep] at q3; exact (q3 z i hi).1⟩)
    rw [ep] at hq
    obtain ⟨K0, c0, -, c1⟩ := hq
    refine ⟨K0, c0, trivial, ?_⟩
    intro r M3 hr
    obtain ⟨rfl, K1, c2, -, c3⟩ := c1 r M3 hr
    conv => whnf
    refine ⟨K1, c2, trivial, ?_⟩
    intro r M4 hr
    obtain ⟨rfl, K2, c4, -, c5⟩ := c3 r M4 hr
    conv => whnf
    refine ⟨K2, c4, trivial, ?_⟩
    intro r M5 hr
    obtain ⟨rfl, g0, g1, g2, g3, g4⟩ := c5 r M5 hr
    have hT5 : TrM M5 (tfS L wt.toInt64 (k - 1)) := ⟨(g0.I rfl).trans hT.1, fun i hi => by rw [g0.I (k := 130) rfl, g0.I (k := 131) rfl]; exact hT.2 i hi⟩
    have hB5 : ∀ j, k = j + 1 → mI M5 129 0 j = bI (!(decide (L j = -1000000000000))) ∧ (¬ L j = -1000000000000 → mJ M5 128 0 j = L j) := fun j hj => by rw [g0.I (k := 129) rfl, g0.J (k := 128) rfl]; exact hB j hj
    have hU5 := hU.trans g1
    have rest : ∀ b : Bool, b = !(decide (L k = -1000000000000)) → GoS Ω true m_MD_trimsOf K 76 [some (vR (some (12, 0))), some (vI x), some (vI v), some (vI wt), some (vI (nI (4 * t + w))), some (vI (sl k)), r6, r7] [vI (bI b), vI (sl k + 30), vR (some (129, 0))] M5 0 0 := by
      intro b hb
      refine go_wp ok_MD_trimsOf [92] 250 _ _ _ _ _ _ ?_
      refine And.intro (by rw [sl_30]; exact vp_in_nI (by omega) (by decide)) ?_
      refine And.intro (bI_01 _) ?_
      rw [sl_30, nI_clamp (by omega)]
      conv => whnf
      refine cl_use (fun K h => c_MD_flift Ω _ (wN (pg M t) w) v (fun i => mJ M5 113 0 i) K hn3 g2 g3 (fun _ _ => rfl) h) trivial ?_
      conv => whnf
      refine And.intro (by rw [sl_30]; exact vp_in_nI (by omega) (by decide)) ?_
      rw [sl_30, nI_clamp (by omega)]
      generalize hy : liS (wN (pg M t) w) v (fun i => mJ M5 113 0 i) = y
      have hyL : ¬ L k = -1000000000000 → y = L k := fun z => by
        have z2 : ¬ rnR (evR (pg M t) w v (sl k) (pg M t 83)) z0 = -2 := fun q => z (by rw [hLk]; exact (rL_no hW hv').mpr q)
        rw [← hy, hLk, rL_yes z2, liS, liS, sm_congr (g4 z2)]
      have hfin : GoS Ω true m_MD_trimsOf K 92 [some (vR (some (12, 0))), some (vI x), some (vI v), some (vI wt), some (vI (nI (4 * t + w))), some (vI (sl k)), r6, r7] [] (sJ (sI M5 129 0 k (bI b)) 128 0 k y) 0 0 := by
        generalize hM6 : sJ (sI M5 129 0 k (bI b)) 128 0 k y = M6
        have hU6 : Un wX M M6 := by rw [← hM6]; exact (hU5.pI rfl).pJ rfl
        have e129 : mI M6 129 0 k = bI (!(decide (L k = -1000000000000))) := by rw [← hM6, ← hb]; show mI (sI M5 129 0 k (bI b)) 129 0 k = _; rw [mI_sI, if_pos ⟨rfl, rfl, rfl⟩]
        have e128 : mJ M6 128 0 k = y := by rw [← hM6, mJ_sJ, if_pos ⟨rfl, rfl, rfl⟩]
        have hT6 : TrM M6 (tfS L wt.toInt64 (k - 1)) := by rw [← hM6]; exact hT5
        have hB6 : ∀ j, k = j + 1 → mI M6 129 0 j = bI (!(decide (L j = -1000000000000))) ∧ (¬ L j = -1000000000000 → mJ M6 128 0 j = L j) := fun j hj => by
          rw [← hM6, mJ_sJ, if_neg (fun q => absurd q.2.2 (by omega))]
          show mI (sI M5 129 0 k (bI b)) 129 0 j = _ ∧ _
          rw [mI_sI, if_neg (fun q => absurd q.2.2 (by omega))]
          exact hB5 j hj
        clear hM6
        have nx : ∀ (M7 : Mem) (r6 r7 : Option Vl), Un wX M M7 → TrM M7 (tfS L wt.toInt64 k) → mI M7 129 0 k = mI M6 129 0 k → mJ M7 128 0 k = mJ M6 128 0 k → GoS Ω true m_MD_trimsOf K 216 [some (vR (some (12, 0))), some (vI x), some (vI v), some (vI wt), some (vI (nI (4 * t + w))), some (vI (sl k)), r6, r7] [] M7 0 0 := by
          intro M7 r6 r7 hU7 hT7 f1 f2
          refine go_wp ok_MD_trimsOf [31] 250 _ _ _ _ _ _ ?_
          conv => whnf
          have := hN M7 ⟨hU7, hT7, fun j hj => by
            obtain rfl : j = k := by omega
            exact ⟨f1.trans e129, fun z => by rw [f2, e128, hyL z]⟩⟩ r6 r7
          rw [← sl_s] at this
          exact this
        by_cases hk0 : k = 0
        · subst hk0
          refine go_wp ok_MD_trimsOf [216] 250 _ _ _ _ _ _ ?_
          refine And.intro (fun _ => ?_) (fun a => absurd sl_0 a)
          exact nx M6 r6 r7 hU6 hT6 rfl rfl
        · obtain ⟨j, rfl⟩ : ∃ j, k = j + 1 := ⟨k - 1, by omega⟩
          obtain ⟨f129, f128⟩ := hB6 j rfl
          have hT6 : TrM M6 (tfS L wt.toInt64 j) := hT6
          have hl := tfS_len L wt.toInt64 j
          have skip : trP L wt.toInt64 j = false → ∀ r6 r7 : Option Vl, GoS Ω true m_MD_trimsOf K 216 [some (vR (some (12, 0))), some (vI x), some (vI v), some (vI wt), some (vI (nI (4 * t + w))), some (vI (sl (j + 1))), r6, r7] [] M6 0 0 := fun hp r6 r7 =>
            nx M6 r6 r7 hU6 (by rw [tfS, if_neg (by rw [hp]; decide)]; exact hT6) rfl rfl
          refine go_wp ok_MD_trimsOf [216, 149, 172, 174] 250 _ _ _ _ _ _ ?_
          refine And.intro (fun a => absurd a (sl_ne (by omega) (by omega))) (fun _ => ?_)
          conv => whnf
          refine And.intro (by rw [sl_30]; exact vp_in_nI (by omega) (by decide)) ?_
          rw [sl_30, nI_clamp (by omega), e129]
          refine br_bz (fun c => ?_) (fun c => ?_)
          · exact skip (by rw [trP, c]; rfl) r6 r7
          conv => whnf
          refine And.intro (by rw [sl_29]; exact vp_in_nI (by omega) (by decide)) ?_
          rw [sl_29, nI_clamp (by omega), f129]
          refine br_bn (fun d => ?_) (fun d => ?_)
          case refine_2 => exact skip (by rw [trP, c, d]; rfl) r6 r7
          have ndd : ∀ a : Int64, (!(decide (a = -1000000000000))) = true → ¬ a = -1000000000000 := fun a q z => by rw [decide_eq_true z] at q; exact absurd q (by decide)
          have ey : mJ M6 128 0 (j + 1) = L (j + 1) := e128.trans (hyL (ndd _ c))
          have ey2 : mJ M6 128 0 j = L j := f128 (ndd _ d)
          have e12 : mI M6 12 0 92 = nI (tfS L wt.toInt64 j).length := hT6.1
          have e3 : trP L wt.toInt64 j = (decide (wt.toInt64 ≤ L (j + 1)) != decide (wt.toInt64 ≤ L j)) := by rw [trP, c, d]; rfl
          have last : ∀ is was : Bool, is = decide (wt.toInt64 ≤ L (j + 1)) → was = decide (wt.toInt64 ≤ L j) → GoS Ω true m_MD_trimsOf K 174 [some (vR (some (12, 0))), some (vI x), some (vI v), some (vI wt), some (vI (nI (4 * t + w))), some (vI (sl (j + 1))), some (vI (bI is)), some (vI (bI was))] [] M6 0 0 := by
            rintro is was e1 e2
            refine go_wp ok_MD_trimsOf [216] 250 _ _ _ _ _ _ ?_
            refine And.intro (fun z => ?_) (fun z => ?_)
            · have hp : trP L wt.toInt64 j = true := by
                rw [e3, ← e1, ← e2]
                cases is <;> cases was
                · exact absurd rfl z
                · rfl
                · rfl
                · exact absurd rfl z
              conv => whnf
              rw [e12]
              refine And.intro (vp_in_nI (by omega) (by decide)) ?_
              rw [nI_clamp (by omega)]
              conv => whnf
              rw [show mI (sI M6 130 0 (tfS L wt.toInt64 j).length (sl (j + 1))) 12 0 92 = nI (tfS L wt.toInt64 j).length from e12]
              refine And.intro (vp_in_nI (by omega) (by decide)) ?_
              refine And.intro (bI_01 _) ?_
              rw [nI_clamp (by omega)]
              conv => whnf
              rw [show mI (sI (sI M6 130 0 (tfS L wt.toInt64 j).length (sl (j + 1))) 131 0 (tfS L wt.toInt64 j).length (bI is)) 12 0 92 = nI (tfS L wt.toInt64 j).length from e12]
              have e : tfS L wt.toInt64 (j + 1) = tfS L wt.toInt64 j ++ [(j + 1, decide (wt.toInt64 ≤ L (j + 1)))] := by rw [tfS, if_pos hp]
              have el : (tfS L wt.toInt64 (j + 1)).length = (tfS L wt.toInt64 j).length + 1 := by rw [e]; simp
              refine nx (sI (sI (sI M6 130 0 (tfS L wt.toInt64 j).length (sl (j + 1))) 131 0 (tfS L wt.toInt64 j).length (bI is)) 12 0 92 (nI (tfS L wt.toInt64 j).length + 1)) _ _ (((hU6.pI rfl).pI rfl).pI rfl) ⟨?_, fun i hi => ?_⟩ ?_ ?_
              · rw [mI_sI, if_pos ⟨rfl, rfl, rfl⟩, el, nI_1]
              · rw [el] at hi
                rw [e]
                by_cases ek : i = (tfS L wt.toInt64 j).length
                · rw [ek, getD_r]
                  refine ⟨?_, ?_⟩
                  · rw [mI_sI, if_neg (fun q => absurd q.1 (by decide)), mI_sI, if_neg (fun q => absurd q.1 (by decide)), mI_sI, if_pos ⟨rfl, rfl, rfl⟩]
                  · rw [mI_sI, if_neg (fun q => absurd q.1 (by decide)), mI_sI, if_pos ⟨rfl, rfl, rfl⟩, e1]
                · rw [getD_l (by omega)]
                  have h6 := hT6.2 i (by omega)
                  refine ⟨?_, ?_⟩
                  · rw [mI_sI, if_neg (fun q => absurd q.1 (by decide)), mI_sI, if_neg (fun q => absurd q.1 (by decide)), mI_sI, if_neg (fun q => ek q.2.2)]; exact h6.1
                  · rw [mI_sI, if_neg (fun q => absurd q.1 (by decide)), mI_sI, if_neg (fun q => ek q.2.2), mI_sI, if_neg (fun q => absurd q.1 (by decide))]; exact h6.2
              · rw [mI_sI, if_neg (fun q => absurd q.1 (by decide)), mI_sI, if_neg (fun q => absurd q.1 (by decide)), mI_sI, if_neg (fun q => absurd q.1 (by decide))]
              · rfl
            · refine skip ?_ _ _
              rw [e3, ← e1, ← e2]
              cases is <;> cases was
              · rfl
              · exact absurd z (by decide)
              · exact absurd z (by decide)
              · rfl
          have wasJ : ∀ is : Bool, is = decide (wt.toInt64 ≤ L (j + 1)) → ∀ r7 : Option Vl, GoS Ω true m_MD_trimsOf K 149 [some (vR (some (12, 0))), some (vI x), some (vI v), some (vI wt), some (vI (nI (4 * t + w))), some (vI (sl (j + 1))), r6, r7] [vI (bI is)] M6 0 0 := by
            intro is e1 r7
            refine go_wp ok_MD_trimsOf [174] 250 _ _ _ _ _ _ ?_
            conv => whnf
            refine And.intro (by rw [sl_29]; exact vp_in_nI (by omega) (by decide)) ?_
            rw [sl_29, nI_clamp (by omega), ey2]
            refine And.intro (fun a => ?_) (fun a => ?_)
            · have a := (lg_cmp_lt _ _).mp a
              conv => whnf
              exact last is false e1 (decide_eq_false (Int64.not_le.mpr a)).symm
            · have a : ¬ _ < _ := fun q => a ((lg_cmp_lt _ _).mpr q)
              conv => whnf
              exact last is true e1 (decide_eq_true (Int64.not_lt.mp a)).symm
          conv => whnf
          refine And.intro (by rw [sl_30]; exact vp_in_nI (by omega) (by decide)) ?_
          rw [sl_30, nI_clamp (by omega), ey]
          refine And.intro (fun a => ?_) (fun a => ?_)
          · have a := (lg_cmp_lt _ _).mp a
            exact wasJ false (decide_eq_false (Int64.not_le.mpr a)).symm r7
          · have a : ¬ _ < _ := fun q => a ((lg_cmp_lt _ _).mpr q)
            exact wasJ true (decide_eq_true (Int64.not_lt.mp a)).symm r7
      exact hfin
    refine And.intro (fun z => ?_) (fun z => ?_)
    · exact rest false (by rw [decide_eq_true (show L k = -1000000000000 by rw [hLk]; exact (rL_no hW hv').mpr z)]; rfl)
    · exact rest true (by rw [decide_eq_false (fun q => z ((rL_no hW hv').mp (by rw [← hLk]; exact q)))]; rfl)
  · rintro M2 ⟨hU, hT, -⟩ r6 r7
    refine go_wp ok_MD_trimsOf [] 250 _ _ _ _ _ _ ?_
    exact And.intro (fun _ => ⟨Or.inr rfl, hK M2 hU hT⟩) (fun a => absurd (show (30 : Int32) < sl 61 by decide) a)
  · exact rfl
