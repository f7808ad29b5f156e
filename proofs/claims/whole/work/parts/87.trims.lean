/-! TRIMS, in both -/
def sl (k : Nat) : Int32 := nI k - 30
theorem sl_s (k : Nat) : sl k + 1 = sl (k + 1) := by
  unfold sl
  rw [← nI_1]
  grind
theorem sl_30 (k : Nat) : sl k + 30 = nI k := by unfold sl; grind
theorem sl_29 (k : Nat) : sl (k + 1) + 29 = nI k := by
  unfold sl
  rw [← nI_1]
  grind
theorem sl_i {k : Nat} (h : k < 100) : (sl k).toInt = (k : Int) - 30 := by
  unfold sl
  rw [I_sub (by rw [nI_toInt (by omega), show (30 : Int32).toInt = 30 from rfl]; omega), nI_toInt (by omega)]
  rfl
theorem getD_l {α : Type} {l : List α} {x d : α} {k : Nat} (h : k < l.length) : (l ++ [x]).getD k d = l.getD k d := by
  simp [List.getD, List.getElem?_append_left h]
theorem getD_r {α : Type} {l : List α} {x d : α} : (l ++ [x]).getD l.length d = x := by
  simp [List.getD]
/-- is there a trim between two slants -/
def trP (L : Nat → Int64) (wt : Int64) (j : Nat) : Bool := !(decide (L (j + 1) = -1000000000000)) && !(decide (L j = -1000000000000)) && (decide (wt ≤ L (j + 1)) != decide (wt ≤ L j))
/-- the trims up to the j-th pair of slants -/
def tfS (L : Nat → Int64) (wt : Int64) : Nat → List (Nat × Bool)
  | 0 => []
  | j + 1 => if trP L wt j = true then tfS L wt j ++ [(j + 1, decide (wt ≤ L (j + 1)))] else tfS L wt j
theorem tfS_len (L : Nat → Int64) (wt : Int64) : ∀ j, (tfS L wt j).length ≤ j := by
  intro j
  induction j with
  | zero => exact Nat.le_refl 0
  | succ j ih =>
    rw [tfS]
    split
    · simp; omega
    · omega
def TrC (M : Mem) (l : List (Nat × Bool)) : Prop := ∀ k, k < l.length → mI M 55 0 k = sl (l.getD k (0, false)).1 ∧ mI M 56 0 k = bI (l.getD k (0, false)).2
def wTr (k i s : Nat) : Bool := wSo k i s || (Nat.ble 54 k && Nat.ble k 56)
theorem wTr_so : ∀ k i s, wTr k i s = false → wSo k i s = false := fun k i s h => (Bool.or_eq_false_iff.mp h).1
theorem sc_Tr : ∀ k i s, wX k i s = false → wTr k i s = false := by
  intro k i s h
  unfold wTr
  rw [sc_So k i s h]
  cases e : (Nat.ble 54 k && Nat.ble k 56) with
  | false => rfl
  | true =>
    simp [nl_d] at e
    rcases (show k = 54 ∨ k = 55 ∨ k = 56 by omega) with rfl | rfl | rfl <;> cases h
theorem mC_Tr : ∀ k i s, wTr k i s = true → wC k i s = true := fun k i s h => by
  rcases Bool.or_eq_true_iff.mp h with h | h
  · exact mC_So k i s h
  · simp [nl_d] at h; simp [wC, nb_d, nl_d]; omega
def trL (M : Mem) (t w : Nat) (v : Int32) : Nat → Int64 := fun k => rL (pg M t) w v (sl k) (pg M t 83)
theorem c_findTrims (Ω : Om) (M : Mem) (o : Option Nat) (x : Int32) (t w : Nat) (v : Int32) (wt : Int64) (K : Ka) (hY : RwY M o x t w) (hS : Sta M)
    (hK : ∀ M', Un wTr M M' → TrC M' (tfS (trL M t w v) wt 60) → K (some (vI (nI (tfS (trL M t w v) wt 60).length))) M') : CallS Ω true m_Trials_findTrims [vR (some (9, 0)), vR (some (7, t)), vR (some (10, 4 * t + w)), vI v, vJ wt] M K := by
  generalize hL : trL M t w v = L at hK
  -- the second loop
  have two : ∀ M1 : Mem, Un wTr M M1 → (∀ k, k < 61 → mJ M1 54 0 k = L k) → ∀ r8 r9 r10 : Option Vl, GoS Ω true m_Trials_findTrims K 48 [some (vR (some (9, 0))), some (vR (some (7, t))), some (vR (some (10, 4 * t + w))), some (vI v), some (vJ wt), none, some (vI (nI (tfS L wt 0).length)), some (vI (nI (0 + 1))), r8, r9, r10] [] M1 0 0 := by
    intro M1 hU1 h54
    refine loopN 60 (fun j M2 => Un wTr M M2 ∧ (∀ k, k < 61 → mJ M2 54 0 k = L k) ∧ TrC M2 (tfS L wt j)) (fun j M2 => ∀ r8 r9 r10 : Option Vl, GoS Ω true m_Trials_findTrims K 48 [some (vR (some (9, 0))), some (vR (some (7, t))), some (vR (some (10, 4 * t + w))), some (vI v), some (vJ wt), none, some (vI (nI (tfS L wt j).length)), some (vI (nI (j + 1))), r8, r9, r10] [] M2 0 0) ?_ ?_ 0 M1 (Nat.zero_le _) ⟨hU1, h54, fun k hk => absurd hk (Nat.not_lt_zero _)⟩
    · rintro j M2 hj ⟨hU, h54, hT⟩ hN r8 r9 r10
      have hl := tfS_len L wt j
      have go : ∀ (there carries carried : Bool), there = (!(decide (L (j + 1) = -1000000000000)) && !(decide (L j = -1000000000000))) → carries = decide (wt ≤ L (j + 1)) → carried = decide (wt ≤ L j) → GoS Ω true m_Trials_findTrims K 134 [some (vR (some (9, 0))), some (vR (some (7, t))), some (vR (some (10, 4 * t + w))), some (vI v), some (vJ wt), none, some (vI (nI (tfS L wt j).length)), some (vI (nI (j + 1))), some (vI (bI there)), some (vI (bI carries)), some (vI (bI carried))] [] M2 0 0 := by
        rintro there carries carried e1 e2 e3
        have ep : trP L wt j = (there && (carries != carried)) := by rw [e1, e2, e3, trP]
        have skip : trP L wt j = false → GoS Ω true m_Trials_findTrims K 177 [some (vR (some (9, 0))), some (vR (some (7, t))), some (vR (some (10, 4 * t + w))), some (vI v), some (vJ wt), none, some (vI (nI (tfS L wt j).length)), some (vI (nI (j + 1))), some (vI (bI there)), some (vI (bI carries)), some (vI (bI carried))] [] M2 0 0 := by
          intro hp
          refine go_wp ok_Trials_findTrims [48] 250 _ _ _ _ _ _ ?_
          conv => whnf
          have e : tfS L wt (j + 1) = tfS L wt j := by rw [tfS, if_neg (by rw [hp]; decide)]
          have := hN M2 ⟨hU, h54, by rw [e]; exact hT⟩ (some (vI (bI there))) (some (vI (bI carries))) (some (vI (bI carried)))
          rw [e, ← nI_1 (j + 1)] at this
          exact this
        refine go_wp ok_Trials_findTrims [177] 250 _ _ _ _ _ _ ?_
        conv => whnf
        refine br_bz (fun c => skip (by rw [ep, c]; rfl)) (fun c => ?_)
        refine And.intro (fun z => ?_) (fun z => ?_)
        · refine skip ?_
          rw [ep]
          cases carries <;> cases carried
          · simp
          · exact absurd z (by decide)
          · exact absurd z (by decide)
          · simp
        · have hp : trP L wt j = true := by
            rw [ep, c]
            cases carries <;> cases carried
            · exact absurd rfl z
            · rfl
            · rfl
            · exact absurd rfl z
          refine And.intro (fun a => absurd a (nI_ge (b := 61) (by omega) (by decide))) (fun _ => ?_)
          conv => whnf
          refine And.intro (vp_in_nI (by omega) (by decide)) ?_
          rw [nI_clamp (by omega)]
          conv => whnf
          refine And.intro (vp_in_nI (by omega) (by decide)) ?_
          refine And.intro (bI_01 _) ?_
          rw [nI_clamp (by omega)]
          have e : tfS L wt (j + 1) = tfS L wt j ++ [(j + 1, decide (wt ≤ L (j + 1)))] := by rw [tfS, if_pos hp]
          have el : (tfS L wt (j + 1)).length = (tfS L wt j).length + 1 := by rw [e]; simp
          have hlast : GoS Ω true m_Trials_findTrims K 177 [some (vR (some (9, 0))), some (vR (some (7, t))), some (vR (some (10, 4 * t + w))), some (vI v), some (vJ wt), none, some (vI (nI ((tfS L wt j).length) + 1)), some (vI (nI (j + 1))), some (vI (bI there)), some (vI (bI carries)), some (vI (bI carried))] [] (sI (sI M2 55 0 (tfS L wt j).length (nI (j + 1) - 30)) 56 0 (tfS L wt j).length (bI carries)) 0 0 := by
            refine go_wp ok_Trials_findTrims [48] 250 _ _ _ _ _ _ ?_
            conv => whnf
            have := hN (sI (sI M2 55 0 (tfS L wt j).length (nI (j + 1) - 30)) 56 0 (tfS L wt j).length (bI carries)) ⟨(hU.pI rfl).pI rfl, fun k hk => h54 k hk, fun k hk => ?_⟩ (some (vI (bI there))) (some (vI (bI carries))) (some (vI (bI carried)))
            · rw [el, ← nI_1 (j + 1), ← nI_1 (tfS L wt j).length] at this
              exact this
            · rw [el] at hk
              rw [e, mI_sI, if_neg (fun q => absurd q.1 (by decide)), mI_sI, mI_sI]
              by_cases ek : k = (tfS L wt j).length
              · rw [if_pos ⟨rfl, rfl, ek⟩, if_pos ⟨rfl, rfl, ek⟩, ek, getD_r]
                exact ⟨rfl, by rw [e2]⟩
              · rw [if_neg (fun q => ek q.2.2), if_neg (fun q => ek q.2.2), mI_sI, if_neg (fun q => absurd q.1 (by decide)), getD_l (by omega)]
                exact hT k (by omega)
          exact hlast
      have carried : ∀ (there carries : Bool), there = (!(decide (L (j + 1) = -1000000000000)) && !(decide (L j = -1000000000000))) → carries = decide (wt ≤ L (j + 1)) → ∀ r10 : Option Vl, GoS Ω true m_Trials_findTrims K 112 [some (vR (some (9, 0))), some (vR (some (7, t))), some (vR (some (10, 4 * t + w))), some (vI v), some (vJ wt), none, some (vI (nI (tfS L wt j).length)), some (vI (nI (j + 1))), some (vI (bI there)), some (vI (bI carries)), r10] [] M2 0 0 := by
        intro there carries e1 e2 r10
        refine go_wp ok_Trials_findTrims [134] 250 _ _ _ _ _ _ ?_
        conv => whnf
        rw [nI_pred]
        refine And.intro (vp_in_nI (by omega) (by decide)) ?_
        rw [nI_clamp (by omega), h54 j (by omega)]
        refine And.intro (fun a => ?_) (fun a => ?_)
        · have a := (lg_cmp_lt _ _).mp a
          conv => whnf
          exact go there carries false e1 e2 (decide_eq_false (Int64.not_le.mpr a)).symm
        · have a : ¬ _ < _ := fun q => a ((lg_cmp_lt _ _).mpr q)
          conv => whnf
          exact go there carries true e1 e2 (decide_eq_true (Int64.not_lt.mp a)).symm
      have carr : ∀ (there : Bool), there = (!(decide (L (j + 1) = -1000000000000)) && !(decide (L j = -1000000000000))) → ∀ r8 r9 r10 : Option Vl, GoS Ω true m_Trials_findTrims K 90 [some (vR (some (9, 0))), some (vR (some (7, t))), some (vR (some (10, 4 * t + w))), some (vI v), some (vJ wt), none, some (vI (nI (tfS L wt j).length)), some (vI (nI (j + 1))), r8, r9, r10] [vI (bI there)] M2 0 0 := by
        intro there e1 r8 r9 r10
        refine go_wp ok_Trials_findTrims [112] 250 _ _ _ _ _ _ ?_
        conv => whnf
        refine And.intro (vp_in_nI (by omega) (by decide)) ?_
        rw [nI_clamp (by omega), h54 (j + 1) (by omega)]
        refine And.intro (fun a => ?_) (fun a => ?_)
        · have a := (lg_cmp_lt _ _).mp a
          conv => whnf
          exact carried there false e1 (decide_eq_false (Int64.not_le.mpr a)).symm r10
        · have a : ¬ _ < _ := fun q => a ((lg_cmp_lt _ _).mpr q)
          conv => whnf
          exact carried there true e1 (decide_eq_true (Int64.not_lt.mp a)).symm r10
      refine go_wp ok_Trials_findTrims [90] 250 _ _ _ _ _ _ ?_
      refine And.intro (fun a => absurd a (nI_ge (b := 61) (by omega) (by decide))) (fun _ => ?_)
      conv => whnf
      refine And.intro (vp_in_nI (by omega) (by decide)) ?_
      rw [nI_clamp (by omega), h54 (j + 1) (by omega)]
      refine And.intro (fun a => ?_) (fun a => ?_)
      · have a := (lg_cmp_eq _ _).mp a
        exact carr false (by rw [decide_eq_true a]; rfl) r8 r9 r10
      · have a : ¬ _ = _ := fun q => a ((lg_cmp_eq _ _).mpr q)
        conv => whnf
        rw [nI_pred]
        refine And.intro (vp_in_nI (by omega) (by decide)) ?_
        rw [nI_clamp (by omega), h54 j (by omega)]
        refine And.intro (fun b => ?_) (fun b => ?_)
        · have b := (lg_cmp_eq _ _).mp b
          exact carr false (by rw [decide_eq_true b, Bool.not_true, Bool.and_false]) r8 r9 r10
        · have b : ¬ _ = _ := fun q => b ((lg_cmp_eq _ _).mpr q)
          exact carr true (by rw [decide_eq_false a, decide_eq_false b]; rfl) r8 r9 r10
    · rintro M2 ⟨hU, h54, hT⟩ r8 r9 r10
      refine go_wp ok_Trials_findTrims [] 250 _ _ _ _ _ _ ?_
      exact And.intro (fun _ => hK M2 hU hT) (fun a => absurd (Int32.le_refl _) a)
  refine call_go (hJL rfl) (Nat.le_of_ble_eq_true rfl) (go_wp ok_Trials_findTrims [3] 250 _ _ _ _ _ _ ?_)
  conv => whnf
  refine loopN 61 (fun i M1 => Un wTr M M1 ∧ ∀ k, k < i → mJ M1 54 0 k = L k) (fun i M1 => GoS Ω true m_Trials_findTrims K 3 [some (vR (some (9, 0))), some (vR (some (7, t))), some (vR (some (10, 4 * t + w))), some (vI v), some (vJ wt), none, some (vI (nI i)), none, none, none, none] [] M1 0 0) ?_ ?_ 0 M (Nat.zero_le _) ⟨Un.rfl, fun k hk => absurd hk (Nat.not_lt_zero _)⟩
  · rintro i M1 hi ⟨hU, hA⟩ hN
    have hX := hU.mono sc_Tr
    obtain ⟨hW, hC, hL', h44⟩ := hY.ok' hX
    refine go_wp ok_Trials_findTrims [3] 250 _ _ _ _ _ _ ?_
    refine And.intro (fun a => absurd a (nI_ge (b := 61) hi (by decide))) (fun _ => ?_)
    conv => whnf
    refine ⟨fun r M' => r = some (vJ (L i)) ∧ Un wSo M1 M', c_restL Ω M1 t w 44 t (pg M t) v (sl i) (pg M t 83) _ hW hC hL' (hS.x hX) rfl (fun _ => rfl) h44 (fun M' a => ⟨by rw [← hL]; rfl, a⟩), trivial, ?_⟩
    rintro r M2 ⟨rfl, hU2⟩
    conv => whnf
    refine And.intro (vp_in_nI (by omega) (by decide)) ?_
    rw [nI_clamp (by omega)]
    have hU2' : Un wTr M1 M2 := hU2.mono wTr_so
    have := hN (sJ M2 54 0 i (L i)) ⟨(hU.trans hU2').pJ rfl, fun k hk => ?_⟩
    · rw [← nI_1] at this
      exact this
    · rw [mJ_sJ]
      by_cases e : k = i
      · rw [if_pos ⟨rfl, rfl, e⟩, e]
      · rw [if_neg (fun q => e q.2.2), hU2.J (show wSo 54 0 k = false from rfl)]; exact hA k (by omega)
  · rintro M1 ⟨hU, hA⟩
    refine go_wp ok_Trials_findTrims [48] 250 _ _ _ _ _ _ ?_
    refine And.intro (fun _ => ?_) (fun a => absurd (Int32.le_refl _) a)
    conv => whnf
    exact two M1 hU hA none none none
