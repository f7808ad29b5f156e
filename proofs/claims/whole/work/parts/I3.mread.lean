/-! READ: the model's read -/
theorem b255 : ∀ i, i < 32 → (BitVec.ofNat 32 255).getLsbD i = decide (i < 8) := by decide
theorem b8_and (x : Int32) : x.toInt8.toInt32 &&& 255 = x &&& 255 := by
  apply Int32.toBitVec_inj.mp
  rw [Int32.toBitVec_and, Int32.toBitVec_and, Int8.toBitVec_toInt32, Int32.toBitVec_toInt8]
  apply BitVec.eq_of_getLsbD_eq
  intro i hi
  rw [BitVec.getLsbD_and, BitVec.getLsbD_and]
  have e : (255 : Int32).toBitVec.getLsbD i = decide (i < 8) := b255 i hi
  rw [e]
  by_cases c : i < 8
  · rw [decide_eq_true c, Bool.and_true, Bool.and_true, BitVec.getLsbD_signExtend, if_pos c, decide_eq_true hi, Bool.true_and, BitVec.getLsbD_signExtend, if_pos (by omega), decide_eq_true c, Bool.true_and]
  · rw [decide_eq_false c, Bool.and_false, Bool.and_false]
def w68 (k i _s : Nat) : Bool := Nat.beq k 68 && Nat.beq i 0
set_option maxHeartbeats 1000000 in
theorem rd_copy {Ω : Om} {K : Ka} {M0 : Mem} {n : Nat} (hn : n ≤ 2000) (h4 : mI M0 12 0 4 = nI n)
    (hN : ∀ M' a1, Un w68 M0 M' → (∀ j, j < n → mI M' 68 0 j = (mI M0 67 0 j).toInt8.toInt32) → GoS Ω true m_MD_read K 47 [some (vR (some (12, 0))), a1] [] M' 0 0) :
    ∀ f i M, i + f = n → Un w68 M0 M → (∀ j, j < i → mI M 68 0 j = (mI M0 67 0 j).toInt8.toInt32) → GoS Ω true m_MD_read K 21 [some (vR (some (12, 0))), some (vI (nI i))] [] M 0 0 := by
  intro f
  induction f with
  | zero =>
    intro i M hi hU hA
    have hi : i = n := by omega
    refine go_wp ok_MD_read [47] 250 _ _ _ _ _ _ ?_
    conv => whnf
    rw [(hU.I rfl).trans h4, hi]
    refine And.intro (fun _ => ?_) (fun q => absurd (Int32.le_refl _) q)
    exact hN M _ hU (by rw [← hi]; exact hA)
  | succ f ih =>
    intro i M hi hU hA
    refine go_wp ok_MD_read [21, 47] 250 _ _ _ _ _ _ ?_
    conv => whnf
    rw [(hU.I rfl).trans h4]
    refine And.intro (fun q => ?_) (fun _ => ?_)
    · rw [nI_leI (by omega) (by omega)] at q
      omega
    conv => whnf
    refine And.intro (vp_in_nI (by omega) (by decide)) ?_
    rw [nI_clamp (by omega)]
    conv => whnf
    refine And.intro (vp_in_nI (by omega) (by decide)) ?_
    rw [nI_clamp (by omega), hU.I (k := 67) rfl]
    conv => whnf
    rw [nI_1]
    refine ih (i + 1) _ (by omega) (hU.pI rfl) (fun j hj => ?_)
    by_cases e : j = i
    · rw [e, mI_eq]
    · rw [mI_sI, if_neg (fun c => e c.2.2)]
      exact hA j (by omega)
/-- all that the model's read touches, of page p -/
def wRz (p k i s : Nat) : Bool := wPr p k i s || ((Nat.beq k 12 && (Nat.beq s 2 || (Nat.beq s 4 || (Nat.beq s 10 || (Nat.beq s 17 || (Nat.beq s 18 || (Nat.beq s 19 || Nat.beq s 20))))))) || ((Nat.ble 68 k && Nat.ble k 72) || (Nat.beq k 119 && Nat.beq (s / 4) p)))
theorem wRz_pr {p : Nat} : ∀ k i s, wRz p k i s = false → wPr p k i s = false := fun k i s q => (Bool.or_eq_false_iff.mp q).1
theorem wRz_68 {p : Nat} : ∀ k i s, wRz p k i s = false → w68 k i s = false := mono_of (fun k i s h => by
  have q : k = 68 := by
    simp [w68, nb_d] at h
    exact h.1
  rw [q]
  simp [wRz, nl_d])
theorem wRz_tb {p : Nat} : ∀ k i s, wRz p k i s = false → wTb k i s = false := mono_of (fun k i s h => by
  have q : (69 ≤ k ∧ k ≤ 72) ∨ (k = 12 ∧ s = 10) := by
    simp [wTb, nb_d, nl_d] at h
    exact h
  rcases q with q | ⟨rfl, rfl⟩
  · simp [wRz, nl_d]; omega
  · simp [wRz])
theorem wRz_12 {p q : Nat} (h : (q = 2 ∨ q = 4 ∨ q = 10 ∨ q = 17 ∨ q = 18 ∨ q = 19 ∨ q = 20) ∨ (11 ≤ q ∧ q ≤ 16) ∨ q = 48 ∨ q = 55) : ∀ k i s, wRz p k i s = false → w1 12 q k i s = false := mono_of (fun k i s g => by
  have : k = 12 ∧ s = q := by simpa [w1, nb_d] using g
  rw [this.1, this.2]
  simp [wRz, wPr, nb_d, nl_d]
  omega)
theorem wRz_ct {p k0 : Nat} (h : k0 = 74 ∨ k0 = 80 ∨ k0 = 84 ∨ k0 = 97) : ∀ k i s, wRz p k i s = false → w1 k0 p k i s = false := mono_of (fun k i s g => by
  have : k = k0 ∧ s = p := by simpa [w1, nb_d] using g
  rw [this.1, this.2]
  rcases h with rfl | rfl | rfl | rfl <;> simp [wRz, wPr, nb_d, nl_d, psz, szf])
theorem w1_no {k0 q k i s : Nat} (h : ¬ (k = k0 ∧ s = q)) : w1 k0 q k i s = false := Bool.eq_false_iff.mpr (fun z => h (by simpa [w1, nb_d] using z))
/-- the tells, one by one -/
theorem rd_loop {Ω : Om} {K : Ka} {M0 : Mem} {B : Nat → Nat} {n p : Nat} {tl : Except Fa (Ps × Cn)} (hn : n ≤ 2000) (hp : p < 4)
    (hN : ∀ M' a1, Un (wPr p) M0 M' → PsM M' B n (eb tl fun r => .ok r.1) → (∀ r, tl = .ok r → CtM M' p r.2 r.1) → GoS Ω true m_MD_read K 170 [some (vR (some (12, 0))), a1] [] M' 0 0) :
    ∀ (f : Nat) (s : Ps) (C : Cn) (M : Mem) (a1 : Option Vl), 501 ≤ f + s.1 → Un (wPr p) M0 M → PsM M B n (.ok s) → CtM M p C s → paS B n f s C = tl → GoS Ω true m_MD_read K 148 [some (vR (some (12, 0))), a1] [] M 0 0 := by
  intro f
  induction f with
  | zero =>
    intro s C M a1 hf hU h hC htl
    have := h.2.1.1.1
    omega
  | succ f ih =>
    intro s C M a1 hf hU h hC htl
    rw [paS] at htl
    have h13 := h.2.2.2.1
    refine go_wp ok_MD_read [148, 170] 250 _ _ _ _ _ _ ?_
    refine And.intro (fun q => absurd h13 q) (fun _ => ?_)
    conv => whnf
    refine cl_use (fun K h' => c_MD_is Ω M B n 0 0 _ K rfl (by decide) rfl h h') trivial ?_
    by_cases c : tkK B n s.1 = 0
    · rw [if_pos c] at htl
      rw [show isB B n 0 (.ok s) = true from decide_eq_true c]
      refine And.intro (fun _ => ?_) (fun q => absurd q (by decide))
      exact hN M a1 hU (by rw [← htl]; exact h) (fun r hr => by rw [← htl] at hr; cases hr; exact hC)
    · rw [if_neg c] at htl
      rw [show isB B n 0 (.ok s) = false from decide_eq_false c]
      refine And.intro (fun q => absurd rfl q) (fun _ => ?_)
      conv => whnf
      refine ⟨fun r M' => r = none ∧ Un (wPr p) M M' ∧ PsM M' B n (eb (teS B n s C) fun r => .ok r.1) ∧ (∀ r, teS B n s C = .ok r → CtM M' p r.2 r.1), c_MD_tell Ω M B n p s C _ hn h hp hC (fun M' a b c => ⟨rfl, a, b, c⟩), trivial, ?_⟩
      rintro r M1 ⟨rfl, U1, P1, G1⟩
      conv => whnf
      cases ht : teS B n s C with
      | error f0 =>
        rw [ht] at P1 htl
        rcases rm_fault P1 with ⟨f', e1, e2, e3⟩ | ⟨s', e1, e2, e3⟩
        · refine go_wp ok_MD_read [170] 250 _ _ _ _ _ _ ?_
          refine And.intro (fun _ => ?_) (fun z => absurd z e2)
          exact hN M1 a1 (hU.trans U1) (by rw [← htl]; exact P1) (fun r hr => by rw [← htl] at hr; cases hr)
        · cases e1
      | ok r =>
        rw [ht] at P1 htl
        exact ih r.1 r.2 M1 a1 (by have := (teS_mo ht).2; omega) (hU.trans U1) P1 (G1 r ht) htl
