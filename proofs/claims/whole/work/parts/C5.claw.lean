/-! READ: the class's reader: points -/
theorem upT_eq {T : Tx} {f a : Nat} {x : Int32} : upT T f a x f a = x := by unfold upT; rw [if_pos ⟨rfl, rfl⟩]
theorem upT_nf {T : Tx} {f a f' a' : Nat} {x : Int32} (h : Nat.beq f' f = false) : upT T f a x f' a' = T f' a' := by
  unfold upT; rw [if_neg (fun q => by rw [q.1, Nat.beq_refl] at h; cases h)]
theorem upT_na {T : Tx} {f a f' a' : Nat} {x : Int32} (h : ¬ a' = a) : upT T f a x f' a' = T f' a' := by
  unfold upT; rw [if_neg (fun q => h q.2)]
/-- a law while its points are told, in the class -/
def LwP (M : Mem) (t k : Nat) (T : Tx) (np : Nat) : Prop := mI M 3 (8 * t + k) 2 = nI np ∧ ∀ j, j < np → mI M 27 (8 * t + k) j = T 78 (8 * k + j) ∧ mI M 28 (8 * t + k) j = T 79 (8 * k + j)
def San2 (M : Mem) (t k : Nat) : Prop := ∃ c, c ≤ 8 ∧ mI M 3 (8 * t + k) 2 = nI c
def wPb (q k i s : Nat) : Bool := (Nat.beq k 27 || (Nat.beq k 28 || (Nat.beq k 3 && Nat.beq s 2))) && Nat.beq i q
def wPt (q k i s : Nat) : Bool := wRe k i s || wPb q k i s
theorem wPt_re {q : Nat} : ∀ k i s, wPt q k i s = false → wRe k i s = false := fun k i s h => (Bool.or_eq_false_iff.mp h).1
theorem wPt_pb {q : Nat} : ∀ k i s, wPt q k i s = false → wPb q k i s = false := fun k i s h => (Bool.or_eq_false_iff.mp h).2
theorem PsC.pb {M M' : Mem} {B : Nat → Nat} {n q : Nat} {e : Except Fa Ps} (h : PsC M B n e) (hU : Un (wPb q) M M') : PsC M' B n e := h.un hU (fun s _ => rfl) (fun _ => rfl) (fun k s hk => by rcases hk with rfl | rfl | rfl | rfl | rfl <;> rfl)
theorem San2.re {M M' : Mem} {t k : Nat} (h : San2 M t k) (hU : Un wRe M M') : San2 M' t k := by
  obtain ⟨c, a, b⟩ := h
  exact ⟨c, a, (hU.I rfl).trans b⟩
theorem LwP.re {M M' : Mem} {t k np : Nat} {T : Tx} (h : LwP M t k T np) (hU : Un wRe M M') : LwP M' t k T np := ⟨(hU.I rfl).trans h.1, fun j hj => ⟨(hU.I rfl).trans (h.2 j hj).1, (hU.I rfl).trans (h.2 j hj).2⟩⟩
theorem c_isAbove (Ω : Om) (M : Mem) (t k c : Nat) (v : Int32) (K : Ka) (hc : c ≤ 8) (h2 : mI M 3 (8 * t + k) 2 = nI c) (h : K (some (vI (bI (decide (c = 0) || decide (mI M 27 (8 * t + k) (c - 1) < v))))) M) : CallS Ω true m_Law_isAboveLast [vR (some (3, 8 * t + k)), vI v] M K := by
  refine call_go (hJL rfl) (Nat.le_of_ble_eq_true rfl) (go_wp ok_Law_isAboveLast [] 250 _ _ _ _ _ _ ?_)
  conv => whnf
  rw [h2]
  refine And.intro (fun q => ?_) (fun q => And.intro (fun z => absurd (h2 ▸ z) (nI_nlt (a := 8) hc (by decide))) (fun _ => ?_))
  · have q : nI c < nI 1 := q
    rw [nI_ltI (by omega) (by omega)] at q
    rw [decide_eq_true (show c = 0 by omega), Bool.true_or] at h
    exact ⟨Or.inr rfl, h⟩
  · have q : ¬ nI c < nI 1 := q
    rw [nI_ltI (by omega) (by omega)] at q
    obtain ⟨d, rfl⟩ : ∃ d, c = d + 1 := ⟨c - 1, by omega⟩
    rw [decide_eq_false (show ¬ d + 1 = 0 by omega), Bool.false_or, Nat.add_sub_cancel] at h
    conv => whnf
    rw [h2, nI_pred]
    refine And.intro (vp_in_nI (by omega) (by decide)) ?_
    rw [nI_clamp (by omega)]
    refine And.intro (fun z => ?_) (fun z => ?_)
    · rw [decide_eq_false (Int32.not_lt.mpr z)] at h
      exact ⟨Or.inl rfl, h⟩
    · rw [decide_eq_true (Int32.not_le.mp z)] at h
      exact ⟨Or.inr rfl, h⟩
theorem c_addPoint (Ω : Om) (M : Mem) (t k : Nat) (x y : Int32) (K : Ka) (hS : San2 M t k) (hK : ∀ M', Un (wPb (8 * t + k)) M M' → San2 M' t k → (∀ T np, LwP M t k T np → np ≤ 7 → LwP M' t k (upT (upT (upT T 78 (8 * k + np) x) 79 (8 * k + np) y) 77 k (nI (np + 1))) (np + 1)) → K none M') : CallS Ω true m_Law_addPoint [vR (some (3, 8 * t + k)), vI x, vI y] M K := by
  obtain ⟨c, hc, h2⟩ := hS
  refine call_go (hJL rfl) (Nat.le_of_ble_eq_true rfl) (go_wp ok_Law_addPoint [] 250 _ _ _ _ _ _ ?_)
  conv => whnf
  rw [h2]
  refine And.intro (fun q => ?_) (fun q => ?_)
  · have q : nI 8 ≤ nI c := q
    rw [nI_leI (by omega) (by omega)] at q
    refine hK M Un.rfl ⟨c, hc, h2⟩ (fun T np hL hnp => ?_)
    have := hL.1
    rw [h2] at this
    have := (nI_eq (by omega) (by omega)).mp this
    omega
  · have q : ¬ nI 8 ≤ nI c := q
    rw [nI_leI (by omega) (by omega)] at q
    conv => whnf
    rw [h2]
    refine And.intro (vp_in_nI (by omega) (by decide)) ?_
    rw [nI_clamp (by omega)]
    conv => whnf
    rw [mI_ne rfl, h2]
    refine And.intro (vp_in_nI (by omega) (by decide)) ?_
    rw [nI_clamp (by omega)]
    conv => whnf
    rw [mI_ne rfl, mI_ne rfl, h2, nI_1]
    have w1 : ∀ k' s, k' = 27 ∨ k' = 28 → wPb (8 * t + k) k' (8 * t + k) s = true := fun k' s hk => by simp [wPb, nb_d]; omega
    refine hK _ (((Un.rfl.pI (w1 27 c (by omega))).pI (w1 28 c (by omega))).pI (by simp [wPb, nb_d])) ⟨c + 1, by omega, mI_eq⟩ (fun T np hL hnp => ?_)
    have e := hL.1
    rw [h2] at e
    have e : c = np := (nI_eq (by omega) (by omega)).mp e
    subst e
    refine ⟨mI_eq, fun j hj => ?_⟩
    rw [mI_ne (k := 3) rfl, mI_ne (k := 3) rfl, upT_nf (f := 77) rfl, upT_nf (f := 77) rfl, upT_nf (f := 79) (f' := 78) rfl]
    by_cases z : j = c
    · rw [z, upT_eq, upT_eq, mI_ne (k := 28) rfl, mI_eq, mI_eq]; exact ⟨rfl, rfl⟩
    · rw [upT_na (by omega), upT_na (by omega), upT_nf (f := 78) (f' := 79) rfl, mI_ne (k := 28) (k' := 27) rfl, mI_sI, if_neg (fun q => z q.2.2), mI_sI, if_neg (fun q => z q.2.2), mI_ne (k := 27) (k' := 28) rfl]
      exact hL.2 j (by omega)
theorem pt_s {B : Nat → Nat} {n k np : Nat} {x : Except Fa (Ps × Tx)} {c : Bool} (hc : ∀ r q, x = .ok r → sdS B n 90 r.1 = .ok q → c = (decide (0 < np) && decide (q.2 ≤ r.2 78 (8 * k + (np - 1))))) :
    eb (eb x fun r => ptS B n k np r.1 r.2) (fun r => .ok r.1) = eb (eb (eb (eb (eb x fun r => .ok r.1) (sdS B n 90)) fun r => .ok (blS 5 c r.1)) (sdS B n 999)) (fun r => .ok r.1) := by
  rw [eb_eb, eb_eb, eb_eb, eb_eb, eb_eb]
  refine eb_cg (fun r hr => ?_)
  rw [eb_k]
  unfold ptS
  rw [eb_eb]
  refine eb_cg (fun q hq => ?_)
  rw [eb_k, eb_eb, ← hc r q hr hq]
  exact eb_cg (fun z hz => by rw [eb_k])
set_option maxHeartbeats 2000000 in
theorem c_tellPoint (Ω : Om) (M : Mem) (B : Nat → Nat) (n t k np : Nat) (x : Except Fa (Ps × Tx)) (K : Ka) (hnp : np ≤ 7) (h : PsC M B n (eb x fun r => .ok r.1)) (hS : San2 M t k) (hx : ∀ r, x = .ok r → LwP M t k r.2 np)
    (hK : ∀ M', Un (wPt (8 * t + k)) M M' → PsC M' B n (eb (eb x fun r => ptS B n k np r.1 r.2) fun r => .ok r.1) → San2 M' t k → (∀ r, (eb x fun r => ptS B n k np r.1 r.2) = .ok r → LwP M' t k r.2 (np + 1)) → K none M') :
    CallS Ω true m_Reader_tellPoint [vR (some (4, 0)), vR (some (3, 8 * t + k))] M K := by
  refine call_go (hJL rfl) (Nat.le_of_ble_eq_true rfl) (go_wp ok_Reader_tellPoint [20] 250 _ _ _ _ _ _ ?_)
  conv => whnf
  refine ⟨fun r M' => ∃ v, r = some (vI v) ∧ Un wRe M M' ∧ PsC M' B n (eb (eb (eb x fun r => .ok r.1) (sdS B n 90)) fun r => .ok r.1) ∧ ∀ r, eb (eb x fun r => .ok r.1) (sdS B n 90) = .ok r → v = r.2, c_signed Ω M B n 90 _ _ h (fun M' v a b c => ⟨v, rfl, a, b, c⟩), trivial, ?_⟩
  rintro r M1 ⟨v, rfl, hU1, h1, hv⟩
  obtain ⟨c, hc, h2⟩ := hS.re hU1
  conv => whnf
  refine cl_use (fun K h => c_isAbove Ω M1 t k c v K hc h2 h) trivial ?_
  generalize hb : (decide (c = 0) || decide (mI M1 27 (8 * t + k) (c - 1) < v)) = b
  have hcc : ∀ r q, x = .ok r → sdS B n 90 r.1 = .ok q → (!b) = (decide (0 < np) && decide (q.2 ≤ r.2 78 (8 * k + (np - 1)))) := fun r q hr hq => by
    have hL := (hx r hr).re hU1
    have e := hL.1
    rw [h2] at e
    have e : c = np := (nI_eq (by omega) (by omega)).mp e
    have ev : v = q.2 := hv q (by rw [hr, eb_k, eb_k]; exact hq)
    rw [← hb, e, ev]
    by_cases z : np = 0
    · rw [decide_eq_true z, decide_eq_false (show ¬ 0 < np by omega)]; rfl
    · rw [decide_eq_false z, decide_eq_true (show 0 < np by omega), (hL.2 (np - 1) (by omega)).1, Bool.false_or, Bool.true_and]
      by_cases y : r.2 78 (8 * k + (np - 1)) < q.2
      · rw [decide_eq_true y, decide_eq_false (Int32.not_le.mpr y)]; rfl
      · rw [decide_eq_false y, decide_eq_true (Int32.not_lt.mp y)]; rfl
  have rest : ∀ M2, Un wRe M1 M2 → PsC M2 B n (eb (eb (eb x fun r => .ok r.1) (sdS B n 90)) fun r => .ok (blS 5 (!b) r.1)) → GoS Ω true m_Reader_tellPoint K 20 [some (vR (some (4, 0))), some (vR (some (3, 8 * t + k))), some (vI v), none] [] M2 0 0 := by
    intro M2 hU2 hP2
    refine go_wp ok_Reader_tellPoint [] 250 _ _ _ _ _ _ ?_
    conv => whnf
    refine ⟨fun r M' => ∃ v2, r = some (vI v2) ∧ Un wRe M2 M' ∧ PsC M' B n (eb (eb (eb (eb (eb x fun r => .ok r.1) (sdS B n 90)) fun r => .ok (blS 5 (!b) r.1)) (sdS B n 999)) fun r => .ok r.1) ∧ ∀ r, eb (eb (eb (eb x fun r => .ok r.1) (sdS B n 90)) fun r => .ok (blS 5 (!b) r.1)) (sdS B n 999) = .ok r → v2 = r.2, c_signed Ω M2 B n 999 _ _ hP2 (fun M' v a b c => ⟨v, rfl, a, b, c⟩), trivial, ?_⟩
    rintro r M3 ⟨v2, rfl, hU3, h3, hv2⟩
    conv => whnf
    have hU13 := (hU1.trans hU2).trans hU3
    refine ⟨fun r M' => r = none ∧ Un (wPb (8 * t + k)) M3 M' ∧ San2 M' t k ∧ (∀ T np, LwP M3 t k T np → np ≤ 7 → LwP M' t k (upT (upT (upT T 78 (8 * k + np) v) 79 (8 * k + np) v2) 77 k (nI (np + 1))) (np + 1)), c_addPoint Ω M3 t k v v2 _ (hS.re hU13) (fun M' a b c => ⟨rfl, a, b, c⟩), trivial, ?_⟩
    rintro r M4 ⟨rfl, q1, q2, q3⟩
    conv => whnf
    refine hK M4 ((hU13.mono wPt_re).trans (q1.mono wPt_pb)) ?_ q2 (fun r hr => ?_)
    · rw [pt_s hcc]
      exact h3.pb q1
    · obtain ⟨r0, z1, z2⟩ := eb_ok hr
      obtain ⟨r1, z3, z4⟩ := eb_ok z2
      obtain ⟨r2, z5, z6⟩ := eb_ok z4
      cases z6
      have e1 : v = r1.2 := hv r1 (by rw [z1, eb_k, eb_k]; exact z3)
      have e2 : v2 = r2.2 := hv2 r2 (by rw [z1, eb_k, eb_k, z3, eb_k, eb_k, hcc r0 r1 z1 z3]; exact z5)
      rw [← e1, ← e2]
      exact q3 _ np ((hx r0 z1).re hU13) hnp
  refine br_bn (fun y => ?_) (fun y => ?_)
  · refine rest M1 Un.rfl ?_
    rw [show (!b) = false by rw [y]; rfl]
    exact h1
  · conv => whnf
    refine ⟨fun r M' => r = none ∧ Un wRe M1 M' ∧ PsC M' B n (eb (eb (eb (eb x fun r => .ok r.1) (sdS B n 90)) fun r => .ok r.1) fun s => .ok (blS 5 true s)), c_blame Ω M1 B n 5 _ _ (by decide) h1 (fun s hs => ?_) (fun M' a b => ⟨rfl, a, b⟩), trivial, ?_⟩
    · obtain ⟨r, z1, z2⟩ := eb_ok hs
      cases z2
      obtain ⟨s0, z3, z4⟩ := eb_ok z1
      have := sdS_at z4
      omega
    rintro r M2 ⟨rfl, q1, q2⟩
    conv => whnf
    refine rest M2 q1 ?_
    rw [eb_eb] at q2
    rw [show (!b) = true by rw [y]; rfl]
    exact q2
