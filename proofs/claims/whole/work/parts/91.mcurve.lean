/-! CURVE, the model's -/
def MeS (M : Mem) (p w : Nat) (T : Tx) (v : Int32) : Prop := (p < 4 ∧ w < 4 ∧ T = pg M p) ∧ mI M 12 0 71 = nI (4 * p + w) ∧ mI M 12 0 72 = nI (wN T w) ∧ mI M 12 0 73 = v ∧ mI M 12 0 75 = 0 ∧ mI M 12 0 76 = -1 ∧ mI M 12 0 78 = 1 ∧ mI M 12 0 79 = 0 ∧ ∀ i, i < wN T w → mI M 118 0 i = T 95 (10 * w + i)
def wMc (k _i s : Nat) : Bool := (Nat.ble 113 k && Nat.ble k 117) || ((Nat.ble 125 k && Nat.ble k 127) || (Nat.beq k 12 && Nat.beq s 74))
theorem wMc_pg : ∀ (f s : Nat), 74 ≤ f → f ≤ 108 → wMc f 0 s = false := fun f s h1 h2 => by simp [wMc, nb_d, nl_d]; omega
theorem wMc_rm : ∀ k i s, wMc k i s = false → wRm k i s = false := fun k i s h => (Bool.or_eq_false_iff.mp h).1
theorem MeS.un {M M' : Mem} {p w : Nat} {T : Tx} {v : Int32} (h : MeS M p w T v) (hU : Un wMc M M') : MeS M' p w T v := by
  obtain ⟨⟨h1, h2, h3⟩, a1, a2, a3, a4, a5, a6, a7, a8⟩ := h
  exact ⟨⟨h1, h2, by rw [pg_un hU wMc_pg]; exact h3⟩, (hU.I rfl).trans a1, (hU.I rfl).trans a2, (hU.I rfl).trans a3, (hU.I rfl).trans a4, (hU.I rfl).trans a5, (hU.I rfl).trans a6, (hU.I rfl).trans a7, fun i hi => (hU.I rfl).trans (a8 i hi)⟩
theorem MeS.me {M : Mem} {p w : Nat} {T : Tx} {v s : Int32} (h : MeS M p w T v) (h74 : mI M 12 0 74 = s) : ME M p (evR T w v s (T 83)) := by
  obtain ⟨⟨h1, h2, h3⟩, a1, a2, a3, a4, a5, a6, a7, a8⟩ := h
  refine ⟨⟨h1, h2, h3⟩, a1, a2, a3, a4, fun i hi => ?_, Or.inl ⟨a5, fun _ _ => rfl⟩⟩
  show bsS T w s (T 83) (fun _ => 0) i = _
  rw [h74, a6, a7, a8 i hi, if_neg (show ¬ (1 : Int32) = 0 by decide), if_pos rfl, ← h3, bsS]
  rfl
/-- what the model knows after some steps -/
def CvM (M : Mem) (n : Nat) (p : CvT) : Prop := (∀ i, i < n → mJ M 113 0 i = p.1 i) ∧ ∀ k, k < 61 → mI M 126 0 k = bI (p.2.2.2 k).isSome ∧ ∀ y, p.2.2.2 k = some y → mJ M 125 0 k = y
theorem wY_Mc : ∀ k i s, wY k i s = false → wMc k i s = false := by
  intro k i s h
  cases e : wMc k i s with
  | false => rfl
  | true =>
    have q : (k = 113 ∨ k = 114 ∨ k = 115 ∨ k = 116 ∨ k = 117 ∨ k = 125 ∨ k = 126 ∨ k = 127) ∨ (k = 12 ∧ s = 74) := by
      simp [wMc, nb_d, nl_d] at e; omega
    rcases q with (rfl | rfl | rfl | rfl | rfl | rfl | rfl | rfl) | ⟨rfl, rfl⟩
    all_goals first
      | (cases h; done)
      | (exact absurd h (by unfold wY wX; rw [show cAll _ i s = false from rfl]; decide))
theorem cv_end {a b j : Nat} (ha : a < 61) (hb : b < 61) (hj : j ≤ cvM a b) : ¬ sl a + nI j * dI (decide (a ≤ b)) = sl b + dI (decide (a ≤ b)) := by
  unfold cvM at hj
  intro q
  by_cases c : a ≤ b
  · rw [if_pos c] at hj
    rw [decide_eq_true c, ix_s (Or.inl rfl) (by omega)] at q
    have q : sl (a + j) = sl b + 1 := q
    rw [sl_s] at q
    have := congrArg Int32.toInt q
    rw [sl_i (by omega), sl_i (by omega)] at this
    omega
  · rw [if_neg c] at hj
    rw [decide_eq_false c, ix_s (Or.inr (by omega)) (by omega)] at q
    have q : sl (a - j) = sl b + -1 := q
    have q : sl (a - j) + 1 = sl b := by rw [q]; grind
    rw [sl_s] at q
    have := congrArg Int32.toInt q
    rw [sl_i (by omega), sl_i (by omega)] at this
    omega
theorem cv_fin {a b : Nat} (ha : a < 61) (hb : b < 61) : sl a + nI (cvM a b + 1) * dI (decide (a ≤ b)) = sl b + dI (decide (a ≤ b)) := by
  have h : sl a + nI (cvM a b) * dI (decide (a ≤ b)) = sl b := by
    by_cases c : a ≤ b
    · rw [decide_eq_true c, cvM, if_pos c, ix_s (Or.inl rfl) (by omega)]
      exact congrArg sl (by show a + (b - a) = b; omega)
    · rw [decide_eq_false c, cvM, if_neg c, ix_s (Or.inr (by omega)) (by omega)]
      exact congrArg sl (by show a - (a - b) = b; omega)
  rw [← nI_1, ← h]
  grind
set_option maxRecDepth 8000 in
/-- the model's steps -/
theorem cm_loop (Ω : Om) (M : Mem) (x : Int32) (t w : Nat) (T : Tx) (v : Int32) (ia ib : Nat) (K : Ka) (hW : WgOK T w) (ha : ia < 61) (hb : ib < 61)
    (hK : ∀ M', Un wMc M M' → CvM M' (wN T w) (cvS T w v (T 83) (decide (ia ≤ ib)) ia (cvM ia ib + 1)) → K (some (vI (cvS T w v (T 83) (decide (ia ≤ ib)) ia (cvM ia ib + 1)).2.1)) M')
    (hS : MeS M t w T v) (hc0 : CvM M (wN T w) (cvS T w v (T 83) (decide (ia ≤ ib)) ia 0)) :
    GoS Ω true m_MD_curve K 102 [some (vR (some (12, 0))), some (vI x), some (vI v), some (vI (sl ia)), some (vI (sl ib)), some (vI (nI (4 * t + w))), some (vI (dI (decide (ia ≤ ib)))), some (vI (-100)), some (vI 0), some (vJ 0), none, some (vI (sl ia)), none, none] [] M 0 0 := by
  have hn3 := hW.n.2.2.1
  have hend : ∀ j, j ≤ cvM ia ib → ¬ sl ia + nI j * dI (decide (ia ≤ ib)) = sl ib + dI (decide (ia ≤ ib)) := fun j hj => cv_end ha hb hj
  have hfin := cv_fin ha hb
  have hix : ∀ j, j ≤ cvM ia ib → ix (decide (ia ≤ ib)) ia j < 61 ∧ sl ia + nI j * dI (decide (ia ≤ ib)) = sl (ix (decide (ia ≤ ib)) ia j) := by
    intro j hj
    unfold cvM at hj
    by_cases c : ia ≤ ib
    · rw [if_pos c] at hj
      rw [decide_eq_true c]
      exact ⟨show ia + j < 61 by omega, ix_s (Or.inl rfl) (by omega)⟩
    · rw [if_neg c] at hj
      rw [decide_eq_false c]
      exact ⟨show ia - j < 61 by omega, ix_s (Or.inr (by omega)) (by omega)⟩
  have hm61 : cvM ia ib < 61 := by rw [cvM]; split <;> omega
  generalize decide (ia ≤ ib) = up at *
  generalize cvM ia ib = m at *
  have e0 : sl ia + nI 0 * dI up = sl ia := by rw [show nI 0 = 0 from rfl]; grind
  have key := loopN (m + 1) (fun j M3 => Un wMc M M3 ∧ MeS M3 t w T v ∧ CvM M3 (wN T w) (cvS T w v (T 83) up ia j))
      (fun j M3 => ∀ (y9 : Int64) (r12 r13 : Option Vl), y9 = (cvS T w v (T 83) up ia j).2.2.1.getD 0 → GoS Ω true m_MD_curve K 102 [some (vR (some (12, 0))), some (vI x), some (vI v), some (vI (sl ia)), some (vI (sl ib)), some (vI (nI (4 * t + w))), some (vI (dI up)), some (vI (cvS T w v (T 83) up ia j).2.1), some (vI (bI (cvS T w v (T 83) up ia j).2.2.1.isSome)), some (vJ y9), none, some (vI (sl ia + nI j * dI up)), r12, r13] [] M3 0 0) ?_ ?_ 0 M (Nat.zero_le _) ⟨Un.rfl, hS, hc0⟩ 0 none none rfl
  · rw [e0] at key
    exact key
  · rintro j M3 hj ⟨hU3, hS3, g1, g2⟩ hN y9 r12 r13 hy9
    refine go_wp ok_MD_curve [121] 250 _ _ _ _ _ _ ?_
    refine And.intro (fun q => absurd q (hend j (by omega))) (fun _ => ?_)
    conv => whnf
    obtain ⟨i61, ei⟩ := hix j (by omega)
    have es : sl ia + nI j * dI up + dI up = sl ia + nI (j + 1) * dI up := by rw [← nI_1]; grind
    rw [cvS] at hN
    generalize cvS T w v (T 83) up ia j = p at *
    generalize ix up ia j = i at *
    rw [ei] at es ⊢
    rw [← es] at hN
    have u4 : Un wMc M3 (sI M3 12 0 74 (sl i)) := Un.rfl.pI rfl
    have e74 : mI (sI M3 12 0 74 (sl i)) 12 0 74 = sl i := by rw [mI_sI, if_pos ⟨rfl, rfl, rfl⟩]
    have c113 : ∀ k', k' < wN T w → mJ (sI M3 12 0 74 (sl i)) 113 0 k' = p.1 k' := g1
    have c126 : ∀ k', mI (sI M3 12 0 74 (sl i)) 126 0 k' = mI M3 126 0 k' := fun k' => by rw [mI_sI, if_neg (fun q => absurd q.1 (by decide))]
    have c125 : ∀ k', mJ (sI M3 12 0 74 (sl i)) 125 0 k' = mJ M3 125 0 k' := fun k' => rfl
    generalize sI M3 12 0 74 (sl i) = M4 at u4 e74 c113 c126 c125
    refine loopN (wN T w) (fun k M5 => Un wMc M3 M5 ∧ mI M5 12 0 74 = sl i ∧ (∀ k', k' < wN T w → mJ M5 113 0 k' = p.1 k') ∧ (∀ k', k' < k → mJ M5 127 0 k' = p.1 k') ∧ (∀ k', mI M5 126 0 k' = mI M3 126 0 k') ∧ (∀ k', mJ M5 125 0 k' = mJ M3 125 0 k'))
      (fun k M5 => GoS Ω true m_MD_curve K 121 [some (vR (some (12, 0))), some (vI x), some (vI v), some (vI (sl ia)), some (vI (sl ib)), some (vI (nI (4 * t + w))), some (vI (dI up)), some (vI p.2.1), some (vI (bI p.2.2.1.isSome)), some (vJ y9), none, some (vI (sl i)), some (vI (nI k)), r13] [] M5 0 0) ?_ ?_ 0 M4 (Nat.zero_le _) ⟨u4, e74, c113, fun k' h => absurd h (Nat.not_lt_zero _), c126, c125⟩
    · rintro k M5 hk ⟨f1, f2, f3, f4, f5, f6⟩ hN2
      have h72 := (hS3.un f1).2.2.1
      refine go_wp ok_MD_curve [121] 250 _ _ _ _ _ _ ?_
      refine And.intro (fun q => ?_) (fun _ => ?_)
      · rw [h72, nI_leI (by omega) (by omega)] at q; omega
      conv => whnf
      refine And.intro (vp_in_nI (by omega) (by decide)) ?_
      conv => whnf
      refine And.intro (vp_in_nI (by omega) (by decide)) ?_
      rw [nI_clamp (by omega), f3 k hk]
      have := hN2 (sJ M5 127 0 k (p.1 k)) ⟨f1.pJ rfl, f2, f3, fun k' hk' => ?_, f5, f6⟩
      · rw [← nI_1] at this
        exact this
      · rw [mJ_sJ]
        by_cases e : k' = k
        · rw [if_pos ⟨rfl, rfl, e⟩, e]
        · rw [if_neg (fun q => e q.2.2)]; exact f4 k' (by omega)
    · rintro M5 ⟨f1, f2, f3, f4, f5, f6⟩
      have hS5 := hS3.un f1
      have h72 := hS5.2.2.1
      refine go_wp ok_MD_curve [162, 194] 250 _ _ _ _ _ _ ?_
      refine And.intro (fun _ => ?_) (fun q => ?_)
      case refine_2 => rw [h72, nI_leI (by omega) (by omega)] at q; omega
      conv => whnf
      refine ⟨fun r M' => r = some (vI (rnR (evR T w v (sl i) (T 83)) p.1)) ∧ Un wRm M5 M' ∧ (¬ rnR (evR T w v (sl i) (T 83)) p.1 = -2 → ∀ k, k < wN T w → mJ M' 113 0 k = rnG (evR T w v (sl i) (T 83)) p.1 k), c_MD_rounds Ω M5 t (evR T w v (sl i) (T 83)) p.1 _ (hS5.me f2) (evR_ok hW) f3 (fun M' a b => ⟨rfl, a, fun z k hk => (b z k hk).1⟩), trivial, ?_⟩
      rintro r M6 ⟨rfl, f7, f8⟩
      have f16 : Un wMc M3 M6 := f1.trans (f7.mono wMc_rm)
      have hS6 := hS3.un f16
      have h726 := hS6.2.2.1
      have g26 : ∀ k, k < 61 → mI M6 126 0 k = bI (p.2.2.2 k).isSome ∧ ∀ y, p.2.2.2 k = some y → mJ M6 125 0 k = y := fun k hk => by
        rw [f7.I (k := 126) rfl, f7.J (k := 125) rfl, f5, f6]; exact g2 k hk
      refine And.intro (fun z => ?_) (fun z => ?_)
      · have f8 := f8 z
        generalize hG : rnG (evR T w v (sl i) (T 83)) p.1 = G at *
        rw [cvN, if_neg z, hG] at hN
        generalize hlf : liS (wN T w) v G = lf at *
        refine go_wp ok_MD_curve [232] 250 _ _ _ _ _ _ ?_
        refine And.intro (by rw [sl_30]; exact vp_in_nI (by omega) (by decide)) ?_
        refine And.intro (Or.inr rfl) ?_
        rw [sl_30, nI_clamp (by omega)]
        conv => whnf
        have q113 : ∀ k, k < wN T w → mJ (sI M6 126 0 i 1) 113 0 k = G k := f8
        have q72 : mI (sI M6 126 0 i 1) 12 0 72 = nI (wN T w) := h726
        have q73 : mI (sI M6 126 0 i 1) 12 0 73 = v := hS6.2.2.2.1
        refine cl_use (fun K h => c_MD_flift Ω _ (wN T w) v G K hn3 q72 q73 q113 h) trivial ?_
        rw [hlf]
        conv => whnf
        refine And.intro (by rw [sl_30]; exact vp_in_nI (by omega) (by decide)) ?_
        rw [sl_30, nI_clamp (by omega)]
        conv => whnf
        refine And.intro (by rw [sl_30]; exact vp_in_nI (by omega) (by decide)) ?_
        rw [sl_30, nI_clamp (by omega), mJ_sJ, if_pos ⟨rfl, rfl, rfl⟩]
        have hU8 : Un wMc M3 (sJ (sI M6 126 0 i 1) 125 0 i lf) := (f16.pI rfl).pJ rfl
        have q3 : ∀ k, k < wN T w → mJ (sJ (sI M6 126 0 i 1) 125 0 i lf) 113 0 k = G k := f8
        have q8 : ∀ k, k < 61 → mI (sJ (sI M6 126 0 i 1) 125 0 i lf) 126 0 k = bI ((fun k => if k = i then some lf else p.2.2.2 k) k).isSome ∧ ∀ y, (fun k => if k = i then some lf else p.2.2.2 k) k = some y → mJ (sJ (sI M6 126 0 i 1) 125 0 i lf) 125 0 k = y := fun k hk => by
          show mI (sI M6 126 0 i 1) 126 0 k = bI (if k = i then some lf else p.2.2.2 k).isSome ∧ ∀ y, (if k = i then some lf else p.2.2.2 k) = some y → mJ (sJ (sI M6 126 0 i 1) 125 0 i lf) 125 0 k = y
          rw [mI_sI]
          by_cases e : k = i
          · rw [if_pos ⟨rfl, rfl, e⟩, if_pos e]
            exact ⟨rfl, fun y hy => by rw [mJ_sJ, if_pos ⟨rfl, rfl, e⟩]; exact Option.some.inj hy⟩
          · rw [if_neg (fun q => e q.2.2), if_neg e]
            exact ⟨(g26 k hk).1, fun y hy => by rw [mJ_sJ, if_neg (fun q => e q.2.2)]; exact (g26 k hk).2 y hy⟩
        generalize sJ (sI M6 126 0 i 1) 125 0 i lf = M8 at hU8 q3 q8
        have nx : ∀ st : Int32, st = (if p.2.1 = -100 ∧ flD up lf p.2.2.1 = true then sl i else p.2.1) → GoS Ω true m_MD_curve K 272 [some (vR (some (12, 0))), some (vI x), some (vI v), some (vI (sl ia)), some (vI (sl ib)), some (vI (nI (4 * t + w))), some (vI (dI up)), some (vI st), some (vI (bI p.2.2.1.isSome)), some (vJ y9), none, some (vI (sl i)), some (vJ lf), none] [] M8 0 0 := by
          intro st hst
          refine go_wp ok_MD_curve [102] 250 _ _ _ _ _ _ ?_
          conv => whnf
          have := hN M8 ⟨hU3.trans hU8, hS3.un hU8, q3, q8⟩ lf (some (vJ lf)) none rfl
          rw [← hst] at this
          exact this
        have mid : GoS Ω true m_MD_curve K 232 [some (vR (some (12, 0))), some (vI x), some (vI v), some (vI (sl ia)), some (vI (sl ib)), some (vI (nI (4 * t + w))), some (vI (dI up)), some (vI p.2.1), some (vI (bI p.2.2.1.isSome)), some (vJ y9), none, some (vI (sl i)), some (vJ lf), none] [] M8 0 0 := by
          refine go_wp ok_MD_curve [272] 250 _ _ _ _ _ _ ?_
          refine And.intro (fun z1 => ?_) (fun z1 => ?_)
          · exact nx _ (if_neg (fun q => z1 q.1)).symm
          conv => whnf
          generalize p.2.2.1 = ob at nx hy9 ⊢
          cases ob with
          | none =>
            refine br_bz (fun _ => ?_) (fun q => absurd (show false = true from q) Bool.false_ne_true)
            exact nx _ (if_neg (fun q => absurd (show false = true from q.2) Bool.false_ne_true)).symm
          | some b =>
            have hy9 : y9 = b := hy9
            subst hy9
            refine br_bz (fun q => absurd (show true = false from q) (by decide)) (fun _ => ?_)
            conv => whnf
            cases up with
            | true =>
              refine And.intro (fun q => absurd (show (1 : Int32) ≤ 0 from q) (by decide)) (fun _ => ?_)
              conv => whnf
              refine And.intro (fun z3 => ?_) (fun z3 => ?_)
              · have z3 := (lg_cmp_ge _ _).mp z3
                refine nx _ (if_neg (fun q => ?_)).symm
                exact absurd (of_decide_eq_true (show decide (lf < y9) = true from q.2)) (Int64.not_lt.mpr z3)
              · have z3 : lf < y9 := Int64.not_le.mp (fun q => z3 ((lg_cmp_ge _ _).mpr q))
                conv => whnf
                exact nx _ (if_pos ⟨z1, show decide (lf < y9) = true from decide_eq_true z3⟩).symm
            | false =>
              refine And.intro (fun _ => ?_) (fun q => absurd (show (-1 : Int32) ≤ 0 by decide) q)
              conv => whnf
              refine And.intro (fun z3 => ?_) (fun z3 => ?_)
              · have z3 := (lg_cmp_le _ _).mp z3
                refine nx _ (if_neg (fun q => ?_)).symm
                exact absurd (of_decide_eq_true (show decide (y9 < lf) = true from q.2)) (Int64.not_lt.mpr z3)
              · have z3 : y9 < lf := Int64.not_le.mp (fun q => z3 ((lg_cmp_le _ _).mpr q))
                conv => whnf
                exact nx _ (if_pos ⟨z1, show decide (y9 < lf) = true from decide_eq_true z3⟩).symm
        exact mid
      · rw [cvN, if_pos z] at hN
        conv => whnf
        have f127 : ∀ k, k < wN T w → mJ M6 127 0 k = p.1 k := fun k hk => (f7.J rfl).trans (f4 k hk)
        refine loopN (wN T w) (fun k M7 => Un wMc M3 M7 ∧ (∀ k', k' < wN T w → mJ M7 127 0 k' = p.1 k') ∧ (∀ k', k' < k → mJ M7 113 0 k' = p.1 k') ∧ (∀ k', k' < 61 → mI M7 126 0 k' = bI (p.2.2.2 k').isSome ∧ ∀ y, p.2.2.2 k' = some y → mJ M7 125 0 k' = y))
          (fun k M7 => GoS Ω true m_MD_curve K 162 [some (vR (some (12, 0))), some (vI x), some (vI v), some (vI (sl ia)), some (vI (sl ib)), some (vI (nI (4 * t + w))), some (vI (dI up)), some (vI p.2.1), some (vI (bI p.2.2.1.isSome)), some (vJ y9), none, some (vI (sl i)), some (vI (nI k)), r13] [] M7 0 0) ?_ ?_ 0 M6 (Nat.zero_le _) ⟨f16, f127, fun k' h => absurd h (Nat.not_lt_zero _), g26⟩
        · rintro k M7 hk ⟨e1, e2, e3, e4⟩ hN2
          have h72 := (hS3.un e1).2.2.1
          refine go_wp ok_MD_curve [162] 250 _ _ _ _ _ _ ?_
          refine And.intro (fun q => ?_) (fun _ => ?_)
          · rw [h72, nI_leI (by omega) (by omega)] at q; omega
          conv => whnf
          refine And.intro (vp_in_nI (by omega) (by decide)) ?_
          conv => whnf
          refine And.intro (vp_in_nI (by omega) (by decide)) ?_
          rw [nI_clamp (by omega), e2 k hk]
          have := hN2 (sJ M7 113 0 k (p.1 k)) ⟨e1.pJ rfl, e2, fun k' hk' => ?_, e4⟩
          · rw [← nI_1] at this
            exact this
          · rw [mJ_sJ]
            by_cases e : k' = k
            · rw [if_pos ⟨rfl, rfl, e⟩, e]
            · rw [if_neg (fun q => e q.2.2)]; exact e3 k' (by omega)
        · rintro M7 ⟨e1, e2, e3, e4⟩
          have h72 := (hS3.un e1).2.2.1
          refine go_wp ok_MD_curve [102] 250 _ _ _ _ _ _ ?_
          refine And.intro (fun _ => ?_) (fun q => ?_)
          · conv => whnf
            exact hN M7 ⟨hU3.trans e1, hS3.un e1, e3, e4⟩ y9 (some (vI (nI (wN T w)))) r13 hy9
          · rw [h72, nI_leI (by omega) (by omega)] at q; omega
  · rintro M3 ⟨hU3, hS3, hC3⟩ y9 r12 r13 hy9
    refine go_wp ok_MD_curve [] 250 _ _ _ _ _ _ ?_
    refine And.intro (fun _ => ?_) (fun q => absurd hfin q)
    exact hK M3 hU3 hC3
