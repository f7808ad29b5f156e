/-! BEST, the class's: a way judged -/
theorem bs_turn {s x y h : Int32} (hs : -30 ≤ s.toInt ∧ s.toInt ≤ 30) (hx : -30 ≤ x.toInt ∧ x.toInt ≤ 30) (hy : -30 ≤ y.toInt ∧ y.toInt ≤ 30) (hh : -30 ≤ h.toInt ∧ h.toInt ≤ 30) : (s + y + h + 0).toInt64 + (x - y).toInt64 = (s + x + h + 0).toInt64 := by
  have e0 : ∀ z : Int32, z + 0 = z := fun z => by grind
  rw [e0, e0]
  have a1 : (s + y).toInt = s.toInt + y.toInt := I_add (by omega)
  have a2 : (s + y + h).toInt = s.toInt + y.toInt + h.toInt := by rw [I_add (by omega), a1]
  have a3 : (s + x).toInt = s.toInt + x.toInt := I_add (by omega)
  have a4 : (s + x + h).toInt = s.toInt + x.toInt + h.toInt := by rw [I_add (by omega), a3]
  have a5 : (x - y).toInt = x.toInt - y.toInt := I_sub (by omega)
  apply Int64.toInt_inj.mp
  rw [J_add (by rw [I_l, I_l]; omega), I_l, I_l, I_l, a2, a4, a5]
  omega
/-- what hinges a strip, within bounds -/
theorem hg_bd {T : Tx} {q : Nat} {ha : Nat → Int32} (h : T 96 q = -1 ∨ ∃ h, h < 4 ∧ T 96 q = nI h) (hha : ∀ h, h < 4 → -30 ≤ (ha h).toInt ∧ (ha h).toInt ≤ 30) : -30 ≤ (if T 96 q = -1 then 0 else ha (T 96 q).toNatClampNeg : Int32).toInt ∧ (if T 96 q = -1 then 0 else ha (T 96 q).toNatClampNeg : Int32).toInt ≤ 30 := by
  rcases h with e | ⟨h, h4, e⟩
  · rw [if_pos e]; decide
  · rw [if_neg (by rw [e]; exact nI_nm1 (by omega)), e, nI_clamp (by omega)]
    exact hha h h4
/-- the solver set out, under some twists -/
def SoC (M : Mem) (t w : Nat) (T : Tx) (s : Int32) (ha tw : Nat → Int32) : Prop := (mR M 6 0 6 = some (7, t) ∧ mR M 6 0 7 = some (10, 4 * t + w) ∧ mI M 6 0 8 = 0) ∧ (∀ i, i < wN T w → mJ M 39 0 i = (bsT T w s ha tw i).toInt64 ∧ mI M 38 0 i = tw i) ∧ ∀ i, i < 10 → mJ M 40 0 i = 0
def bvS (k : Nat) (b : Option (Int64 × (Nat → Int32))) (i : Nat) : Int32 := match b with
  | none => -1000
  | some p => if bt k i = true then p.2 i else -1000
/-- the best so far, in the class -/
def FdC (M : Mem) (k : Nat) (b : Option (Int64 × (Nat → Int32))) : Prop := mI M 1 0 6 = bI b.isSome ∧ (∀ p, b = some p → mJ M 1 0 7 = p.1) ∧ ∀ i, i < 10 → mI M 22 0 i = bvS k b i
def wTn (k _i _s : Nat) : Bool := Nat.beq k 38 || Nat.beq k 39
def wFd (k _i s : Nat) : Bool := Nat.beq k 22 || (Nat.beq k 1 && (Nat.beq s 6 || Nat.beq s 7))
def wJg (t k i s : Nat) : Bool := wSo k i s || (wFb t k i s || wFd k i s)
theorem wJg_So {t : Nat} : ∀ k i s, wJg t k i s = false → wSo k i s = false := fun k i s h => (Bool.or_eq_false_iff.mp h).1
theorem wJg_Fb {t : Nat} : ∀ k i s, wJg t k i s = false → wFb t k i s = false := fun k i s h => (Bool.or_eq_false_iff.mp (Bool.or_eq_false_iff.mp h).2).1
theorem wJg_Fd {t : Nat} : ∀ k i s, wJg t k i s = false → wFd k i s = false := fun k i s h => (Bool.or_eq_false_iff.mp (Bool.or_eq_false_iff.mp h).2).2
theorem wSo_tn : ∀ k i s, wSo k i s = false → wTn k i s = false := fun k i s h => by simp [wSo, wTn, nb_d, nl_d] at h ⊢; omega
/-- twists while they are told -/
def twJ (T : Tx) (w k : Nat) (d : Nat → Nat) (tw0 : Nat → Int32) (j i : Nat) : Int32 := if bt k i = true ∧ btC k i < j then tv (aO (T 95 (10 * w + i))) (d (btC k i)) else tw0 i
theorem tv_bd {a x : Nat} (ha : a < 61) (h1 : dlo a ≤ x) (h2 : x < dlo a + dnn a) : -30 ≤ (tv a x).toInt ∧ (tv a x).toInt ≤ 30 := by
  have h3 := dnn_ok ha
  have q := ((dg_at ha).2.2 x (by omega)).1.2
  rw [decide_eq_true h1, decide_eq_true h2] at q
  obtain ⟨q1, q2⟩ := inR_t.mp q
  exact ⟨Int32.le_iff_toInt_le.mp q1, Int32.le_iff_toInt_le.mp q2⟩
set_option maxHeartbeats 1000000 in
theorem jd_turn {Ω : Om} {K : Ka} {M1 : Mem} {t w k : Nat} {T : Tx} {v s le : Int32} {ha tw0 : Nat → Int32} {d : Nat → Nat} (hW : WgOK T w) (hs : -30 ≤ s.toInt ∧ s.toInt ≤ 30) (hha : ∀ h, h < 4 → -30 ≤ (ha h).toInt ∧ (ha h).toInt ≤ 30) (hk : k < 2 ^ wN T w) (h4 : btC k (wN T w) ≤ 4)
    (h0 : ∀ i, i < wN T w → (-30 ≤ (tw0 i).toInt ∧ (tw0 i).toInt ≤ 30) ∧ (bt k i = false → tw0 i = T 95 (10 * w + i))) (h5 : mI M1 1 0 5 = nI (btC k (wN T w))) (h18 : ∀ j, j < btC k (wN T w) → mI M1 18 0 j = nI (mj k j)) (hT : Trl M1 (btC k (wN T w)) (ao T w k) d)
    (hd : ∀ j, j < btC k (wN T w) → loF T w k j ≤ d j ∧ d j < loF T w k j + nnF T w k j) (hS : ∀ i, i < wN T w → mJ M1 39 0 i = (bsT T w s ha tw0 i).toInt64 ∧ mI M1 38 0 i = tw0 i)
    (hN : ∀ M2 r5, Un wTn M1 M2 → (∀ i, i < wN T w → mJ M2 39 0 i = (bsT T w s ha (twD T w k d) i).toInt64 ∧ mI M2 38 0 i = twD T w k d i) → GoS Ω true m_Best_judge K 60 [some (vR (some (1, 0))), some (vR (some (7, t))), some (vR (some (10, 4 * t + w))), some (vI v), some (vI le), r5, none, none] [] M2 0 0) :
    GoS Ω true m_Best_judge K 18 [some (vR (some (1, 0))), some (vR (some (7, t))), some (vR (some (10, 4 * t + w))), some (vI v), some (vI le), some (vI (nI 0)), none, none] [] M1 0 0 := by
  obtain ⟨hn1, hn2, hn3, hst⟩ := hW.n
  have hk10 := k_1024 hk hn3
  refine loopN (btC k (wN T w)) (fun j M2 => Un wTn M1 M2 ∧ ∀ i, i < wN T w → mJ M2 39 0 i = (bsT T w s ha (twJ T w k d tw0 j) i).toInt64 ∧ mI M2 38 0 i = twJ T w k d tw0 j i) (fun j M2 => GoS Ω true m_Best_judge K 18 [some (vR (some (1, 0))), some (vR (some (7, t))), some (vR (some (10, 4 * t + w))), some (vI v), some (vI le), some (vI (nI j)), none, none] [] M2 0 0) ?_ ?_ 0 M1 (Nat.zero_le _) ⟨Un.rfl, fun i hi => ?_⟩
  · rintro j M2 hj ⟨hU, hA⟩ hNN
    obtain ⟨m1, m2, m3⟩ := mj_j hk10 hn3 hj
    obtain ⟨a1, a2⟩ := ao_ok hW hk hj
    obtain ⟨d1, d2⟩ := hd j hj
    refine go_wp ok_Best_judge [18] 250 _ _ _ _ _ _ ?_
    refine And.intro (fun a => ?_) (fun _ => And.intro (fun a => absurd a (nI_ge (b := 4) (by omega) (by decide))) (fun _ => ?_))
    · rw [(hU.I rfl).trans h5, nI_leI (by omega) (by omega)] at a; omega
    conv => whnf
    refine And.intro (vp_in_nI (by omega) (by decide)) ?_
    conv => whnf
    refine And.intro (vp_in_nI (by omega) (by decide)) ?_
    rw [nI_clamp (by omega), (hU.I rfl).trans (h18 j hj), (hU.I rfl).trans (hT j hj)]
    refine cl_use (fun K h => c_turnStrip Ω M2 (mj k j) (tv (ao T w k j) (d j)) K (by omega) h) trivial ?_
    conv => whnf
    have := hNN (sI (sJ M2 39 0 (mj k j) (mJ M2 39 0 (mj k j) + (tv (ao T w k j) (d j) - mI M2 38 0 (mj k j)).toInt64)) 38 0 (mj k j) (tv (ao T w k j) (d j))) ⟨(hU.pJ rfl).pI rfl, fun i hi => ?_⟩
    · rw [← nI_1] at this
      exact this
    · rw [mJ_sI, mI_sI, mJ_sJ, mI_sJ]
      by_cases e : i = mj k j
      · rw [if_pos ⟨rfl, rfl, e⟩, if_pos ⟨rfl, rfl, e⟩]
        subst e
        have e1 : twJ T w k d tw0 (j + 1) (mj k j) = tv (ao T w k j) (d j) := by
          unfold twJ
          rw [if_pos ⟨m2, by omega⟩, m3]
          rfl
        have e2 : twJ T w k d tw0 j (mj k j) = tw0 (mj k j) := by
          unfold twJ
          rw [if_neg (fun q => by omega)]
        refine ⟨?_, e1.symm⟩
        rw [(hA _ m1).1, (hA _ m1).2]
        unfold bsT
        rw [e1, e2]
        exact bs_turn hs (tv_bd a1 d1 d2) (h0 _ m1).1 (hg_bd (hst _ m1).2.2.2.2 hha)
      · rw [if_neg (fun q => e q.2.2), if_neg (fun q => e q.2.2)]
        have e1 : twJ T w k d tw0 (j + 1) i = twJ T w k d tw0 j i := by
          unfold twJ
          by_cases c : bt k i = true ∧ btC k i < j
          · rw [if_pos c, if_pos ⟨c.1, by omega⟩]
          · rw [if_neg c, if_neg (fun q => ?_)]
            refine c ⟨q.1, ?_⟩
            refine Nat.lt_of_le_of_ne (by omega) (fun z => e ?_)
            rw [← z, mj_i hk10 (by omega) q.1]
        unfold bsT
        rw [e1]
        exact hA i hi
  · rintro M2 ⟨hU, hA⟩
    refine go_wp ok_Best_judge [60] 250 _ _ _ _ _ _ ?_
    refine And.intro (fun _ => ?_) (fun a => ?_)
    · refine hN M2 _ hU (fun i hi => ?_)
      have e1 : twJ T w k d tw0 (btC k (wN T w)) i = twD T w k d i := by
        unfold twJ twD
        cases c : bt k i with
        | true => rw [if_pos ⟨rfl, btC_lt hi c⟩, if_pos rfl]
        | false =>
          rw [if_neg (fun q => by cases q.1), if_neg (by decide)]
          exact (h0 i hi).2 c
      have := hA i hi
      unfold bsT at this ⊢
      rw [e1] at this
      exact this
    · rw [(hU.I rfl).trans h5] at a; exact absurd (Int32.le_refl _) a
  · have e1 : twJ T w k d tw0 0 i = tw0 i := by
      unfold twJ
      rw [if_neg (fun q => by omega)]
    unfold bsT
    rw [e1]
    exact hS i hi
/-- a way that is the best so far is kept -/
theorem jd_keep {Ω : Om} {K : Ka} {M1 : Mem} {t w k : Nat} {T : Tx} {v le : Int32} {d : Nat → Nat} {D : Int64} {b : Option (Int64 × (Nat → Int32))} (hW : WgOK T w) (hk : k < 2 ^ wN T w) (h4 : btC k (wN T w) ≤ 4)
    (h5 : mI M1 1 0 5 = nI (btC k (wN T w))) (h18 : ∀ j, j < btC k (wN T w) → mI M1 18 0 j = nI (mj k j)) (hT : Trl M1 (btC k (wN T w)) (ao T w k) d) (h22 : ∀ i, i < 10 → mI M1 22 0 i = bvS k b i)
    (hN : ∀ M2, Un wFd M1 M2 → FdC M2 k (some (D, twD T w k d)) → K none M2) (r7 : Option Vl) :
    GoS Ω true m_Best_judge K 144 [some (vR (some (1, 0))), some (vR (some (7, t))), some (vR (some (10, 4 * t + w))), some (vI v), some (vI le), some (vJ D), none, r7] [] M1 0 0 := by
  obtain ⟨hn1, hn2, hn3, hst⟩ := hW.n
  have hk10 := k_1024 hk hn3
  refine go_wp ok_Best_judge [158] 250 _ _ _ _ _ _ ?_
  conv => whnf
  refine And.intro (Or.inr rfl) ?_
  conv => whnf
  refine loopN (btC k (wN T w)) (fun j M2 => Un wFd M1 M2 ∧ (mI M2 1 0 6 = 1 ∧ mJ M2 1 0 7 = D) ∧ ∀ i, i < 10 → mI M2 22 0 i = if bt k i = true ∧ btC k i < j then twD T w k d i else bvS k b i) (fun j M2 => GoS Ω true m_Best_judge K 158 [some (vR (some (1, 0))), some (vR (some (7, t))), some (vR (some (10, 4 * t + w))), some (vI v), some (vI le), some (vJ D), none, some (vI (nI j))] [] M2 0 0) ?_ ?_ 0 _ (Nat.zero_le _) ⟨(Un.rfl.pI rfl).pJ rfl, ⟨by rw [mI_sJ, mI_eq], by rw [mJ_sJ, if_pos ⟨rfl, rfl, rfl⟩]⟩, fun i hi => ?_⟩
  · rintro j M2 hj ⟨hU, hF, hA⟩ hNN
    obtain ⟨m1, m2, m3⟩ := mj_j hk10 hn3 hj
    refine go_wp ok_Best_judge [158] 250 _ _ _ _ _ _ ?_
    refine And.intro (fun a => ?_) (fun _ => And.intro (fun a => absurd a (nI_ge (b := 4) (by omega) (by decide))) (fun _ => ?_))
    · rw [(hU.I rfl).trans h5, nI_leI (by omega) (by omega)] at a; omega
    conv => whnf
    refine And.intro (vp_in_nI (by omega) (by decide)) ?_
    conv => whnf
    refine And.intro (vp_in_nI (by omega) (by decide)) ?_
    rw [nI_clamp (by omega), (hU.I rfl).trans (h18 j hj), (hU.I rfl).trans (hT j hj)]
    conv => whnf
    refine And.intro (vp_in_nI (by omega) (by decide)) ?_
    rw [nI_clamp (by omega)]
    conv => whnf
    have := hNN (sI M2 22 0 (mj k j) (tv (ao T w k j) (d j))) ⟨hU.pI rfl, ⟨by rw [mI_ne rfl]; exact hF.1, hF.2⟩, fun i hi => ?_⟩
    · rw [← nI_1] at this
      exact this
    · rw [mI_sI]
      by_cases e : i = mj k j
      · rw [if_pos ⟨rfl, rfl, e⟩, e, if_pos ⟨m2, by omega⟩]
        unfold twD
        rw [if_pos m2, m3]
        rfl
      · rw [if_neg (fun q => e q.2.2), hA i hi]
        by_cases c : bt k i = true ∧ btC k i < j
        · rw [if_pos c, if_pos ⟨c.1, by omega⟩]
        · rw [if_neg c, if_neg (fun q => ?_)]
          refine c ⟨q.1, ?_⟩
          refine Nat.lt_of_le_of_ne (by omega) (fun z => e ?_)
          rw [← z, mj_i hk10 hi q.1]
  · rintro M2 ⟨hU, hF, hA⟩
    refine go_wp ok_Best_judge [] 250 _ _ _ _ _ _ ?_
    refine And.intro (fun _ => ?_) (fun a => ?_)
    · refine hN M2 hU ⟨hF.1, fun p e => by cases e; exact hF.2, fun i hi => ?_⟩
      rw [hA i hi]
      show _ = if bt k i = true then twD T w k d i else -1000
      cases c : bt k i with
      | true =>
        have : btC k i < btC k (wN T w) := by
          refine btC_lt (Nat.lt_of_not_le (fun q => ?_)) c
          rw [bt_out hk q] at c
          cases c
        rw [if_pos ⟨rfl, this⟩, if_pos rfl]
      | false =>
        rw [if_neg (fun q => by cases q.1), if_neg (by decide)]
        cases b with
        | none => rfl
        | some p =>
          show (if bt k i = true then p.2 i else -1000) = _
          rw [c]; rfl
    · rw [(hU.I rfl).trans h5] at a; exact absurd (Int32.le_refl _) a
  · rw [mI_sJ, mI_ne rfl, if_neg (fun q => by omega)]
    exact h22 i hi
