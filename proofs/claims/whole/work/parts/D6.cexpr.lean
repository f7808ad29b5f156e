/-! READ: the class's reader: expressions -/
def uS (B : Nat → Nat) (n : Nat) (s : Ps) : Except Fa (Ps × Cd) := if 214 ≤ tkK B n s.1 ∧ tkK B n s.1 ≤ 221 then eb (tkS B n (tkK B n s.1) s) fun s' => .ok (s', (1, nI (tkK B n s.1 - 214))) else eb (tkS B n 3 s) fun s' => .ok (s', (0, (tkV B n s'.2.1).toInt32))
theorem wd_1 {j : Nat} (h : j < 100) : wdC (1, nI j) = (nI (214 + j), nI j) := by
  show (nI (214 + (nI j).toNatClampNeg), nI j) = _
  rw [nI_clamp (by omega)]
theorem PsC.sp {M M' : Mem} {B : Nat → Nat} {n t : Nat} {e : Except Fa Ps} (hP : PsC M B n e) (hU : Un (wSp t) M M') : PsC M' B n e := hP.un hU (fun s _ => by simp [wSp, nb_d]) (fun _ => by simp [wSp, nb_d]) (fun k s hk => by simp [wSp, nb_d]; omega)
theorem PsC.rl {M M' : Mem} {B : Nat → Nat} {n t : Nat} {e : Except Fa Ps} (hP : PsC M B n e) (hU : Un (wRl t) M M') : PsC M' B n e := hP.un hU (fun s hs => by simp [wRl, wSp, nb_d]; omega) (fun _ => by simp [wRl, wSp, nb_d]) (fun k s hk => by simp [wRl, wSp, nb_d]; omega)
theorem PsC.pn {M M' : Mem} {B : Nat → Nat} {n : Nat} {e : Except Fa Ps} (hP : PsC M B n e) (hU : Un wPn M M') : PsC M' B n e := hP.un hU (fun s hs => by simp [wPn, nb_d]; omega) (fun _ => rfl) (fun k s hk => by rcases hk with rfl | rfl | rfl | rfl | rfl <;> rfl)
theorem San4.re {M M' : Mem} {t : Nat} (h : San4 M t) (hU : Un wRe M M') : San4 M' t := by
  obtain ⟨c, a, b⟩ := h
  exact ⟨c, a, (hU.I rfl).trans b⟩
theorem San4.pn {M M' : Mem} {t : Nat} (h : San4 M t) (hU : Un wPn M M') : San4 M' t := by
  obtain ⟨c, a, b⟩ := h
  exact ⟨c, a, (hU.I rfl).trans b⟩
theorem StpC.re {M M' : Mem} {t : Nat} {xs : List (Int32 × Int32)} (h : StpC M t xs) (hU : Un wRe M M') : StpC M' t xs := ⟨⟨(hU.I rfl).trans h.1.1, h.1.2⟩, h.2.un hU (fun _ _ => rfl) (fun _ _ => rfl)⟩
theorem StpC.pn {M M' : Mem} {t : Nat} {xs : List (Int32 × Int32)} (h : StpC M t xs) (hU : Un wPn M M') : StpC M' t xs := ⟨⟨(hU.I rfl).trans h.1.1, h.1.2⟩, h.2.un hU (fun _ _ => rfl) (fun _ _ => rfl)⟩
theorem San5.re {M M' : Mem} (h : San5 M) (hU : Un wRe M M') : San5 M' := by
  obtain ⟨c, a, b⟩ := h
  exact ⟨c, a, (hU.I rfl).trans b⟩
theorem San5.sp {M M' : Mem} {t : Nat} (h : San5 M) (hU : Un (wSp t) M M') : San5 M' := by
  obtain ⟨c, a, b⟩ := h
  exact ⟨c, a, (hU.I (by simp [wSp, nb_d])).trans b⟩
theorem PnC.re {M M' : Mem} {P : List Nat} (h : PnC M P) (hU : Un wRe M M') : PnC M' P := ⟨⟨(hU.I rfl).trans h.1.1, h.1.2⟩, h.2.1, fun j hj => (hU.I rfl).trans (h.2.2 j hj)⟩
theorem PnC.sp {M M' : Mem} {t : Nat} {P : List Nat} (h : PnC M P) (hU : Un (wSp t) M M') : PnC M' P := ⟨⟨(hU.I (by simp [wSp, nb_d])).trans h.1.1, h.1.2⟩, h.2.1, fun j hj => (hU.I (by simp [wSp, nb_d])).trans (h.2.2 j hj)⟩
def wUn (t k i s : Nat) : Bool := wRe k i s || wSp t k i s
theorem wUn_re {t : Nat} : ∀ k i s, wUn t k i s = false → wRe k i s = false := fun k i s h => (Bool.or_eq_false_iff.mp h).1
theorem wUn_sp {t : Nat} : ∀ k i s, wUn t k i s = false → wSp t k i s = false := fun k i s h => (Bool.or_eq_false_iff.mp h).2
set_option maxHeartbeats 2000000 in
theorem c_unit (Ω : Om) (M : Mem) (B : Nat → Nat) (n t : Nat) (s : Ps) (K : Ka) (h : PsC M B n (.ok s)) (hS : San4 M t)
    (hK : ∀ M', Un (wUn t) M M' → PsC M' B n (eb (uS B n s) fun r => .ok r.1) → San4 M' t → (∀ P, PnC M P → PnC M' P) → (∀ r xs, uS B n s = .ok r → StpC M t xs → xs.length < 500 → StpC M' t (xs ++ [wdC r.2])) → K none M') :
    CallS Ω true m_Reader_unit [vR (some (4, 0)), vR (some (0, t))] M K := by
  have hk := tkK_lt B n s.1
  have e2 : mI M 4 0 2 = nI (tkK B n s.1) := h.2.2.2.1
  refine call_go (hJL rfl) (Nat.le_of_ble_eq_true rfl) (go_wp ok_Reader_unit [] 250 _ _ _ _ _ _ ?_)
  conv => whnf
  rw [e2]
  refine cl_use (fun K h => c_isVar Ω M _ K h) trivial ?_
  rw [show inR 214 221 (nI (tkK B n s.1)) = (Nat.ble 214 (tkK B n s.1) && Nat.ble (tkK B n s.1) 221) from inR_c (a := 214) (b := 221) (by decide) (by decide) (by omega)]
  refine br_bz (fun c => ?_) (fun c => ?_)
  · have z : ¬ (214 ≤ tkK B n s.1 ∧ tkK B n s.1 ≤ 221) := fun q => by
      have c : (Nat.ble 214 (tkK B n s.1) && Nat.ble (tkK B n s.1) 221) = false := c
      rw [Nat.ble_eq.mpr q.1, Nat.ble_eq.mpr q.2] at c
      cases c
    have eu : uS B n s = eb (tkS B n 3 s) fun s' => .ok (s', (0, (tkV B n s'.2.1).toInt32)) := by unfold uS; rw [if_neg z]
    conv => whnf
    refine ⟨fun r M' => r = none ∧ Un wRe M M' ∧ PsC M' B n (tkS B n 3 s), c_take Ω M B n 3 (.ok s) _ (by omega) h (fun M' a b => ⟨rfl, a, by rw [eb_k] at b; exact b⟩), trivial, ?_⟩
    rintro r M1 ⟨rfl, U1, P1⟩
    conv => whnf
    refine ⟨fun r M' => ∃ y, r = some (vJ y) ∧ M' = M1 ∧ ∀ i, rch B n i → mI M1 4 0 3 = nI i → y = tkV B n i, c_tkVal Ω M1 B n _ _ P1.1.2 P1.1.2.c (fun y hy => ⟨y, rfl, rfl, hy⟩), trivial, ?_⟩
    rintro r M2 ⟨y, rfl, rfl, hy⟩
    conv => whnf
    refine ⟨fun r' M' => r' = none ∧ Un (wSp t) M2 M' ∧ San4 M' t ∧ (∀ xs, StpC M2 t xs → xs.length < 500 → StpC M' t (xs ++ [(3, y.toInt32)])), c_addStep Ω M2 t 3 y.toInt32 _ (hS.re U1) (fun M' a b c => ⟨rfl, a, b, c⟩), trivial, ?_⟩
    rintro r' M3 ⟨rfl, U3, S3, A3⟩
    conv => whnf
    refine hK M3 ((U1.mono wUn_re).trans (U3.mono wUn_sp)) ?_ S3 (fun P hP => (hP.re U1).sp U3) (fun r xs hr hx hl => ?_)
    · rw [eu, eb_pr, eb_id]
      exact P1.sp U3
    · rw [eu] at hr
      obtain ⟨s', g1, g2⟩ := eb_ok hr
      cases g2
      have h2 := P1.2
      rw [g1] at h2
      rw [← hy _ (rch_tk h2) h2.2.2.2.1]
      exact A3 xs (hx.re U1) hl
  · have c : (Nat.ble 214 (tkK B n s.1) && Nat.ble (tkK B n s.1) 221) = true := c
    have z : 214 ≤ tkK B n s.1 ∧ tkK B n s.1 ≤ 221 := ⟨Nat.le_of_ble_eq_true (Bool.and_eq_true_iff.mp c).1, Nat.le_of_ble_eq_true (Bool.and_eq_true_iff.mp c).2⟩
    have eu : uS B n s = eb (tkS B n (tkK B n s.1) s) fun s' => .ok (s', (1, nI (tkK B n s.1 - 214))) := by unfold uS; rw [if_pos z]
    conv => whnf
    rw [e2, show (214 : Int32) = nI 214 from rfl, pk_sub z.1]
    refine ⟨fun r' M' => r' = none ∧ Un (wSp t) M M' ∧ San4 M' t ∧ (∀ xs, StpC M t xs → xs.length < 500 → StpC M' t (xs ++ [(nI (tkK B n s.1), nI (tkK B n s.1 - 214))])), c_addStep Ω M t _ _ _ hS (fun M' a b c => ⟨rfl, a, b, c⟩), trivial, ?_⟩
    rintro r' M1 ⟨rfl, U1, S1, A1⟩
    conv => whnf
    rw [(U1.I (by simp [wSp, nb_d])).trans e2]
    refine ⟨fun r M' => r = none ∧ Un wRe M1 M' ∧ PsC M' B n (tkS B n (tkK B n s.1) s), c_take Ω M1 B n (tkK B n s.1) (.ok s) _ (by omega) (h.sp U1) (fun M' a b => ⟨rfl, a, by rw [eb_k] at b; exact b⟩), trivial, ?_⟩
    rintro r M2 ⟨rfl, U2, P2⟩
    conv => whnf
    refine hK M2 ((U1.mono wUn_sp).trans (U2.mono wUn_re)) ?_ (S1.re U2) (fun P hP => (hP.sp U1).re U2) (fun r xs hr hx hl => ?_)
    · rw [eu, eb_pr, eb_id]
      exact P2
    · rw [eu] at hr
      obtain ⟨s', g1, g2⟩ := eb_ok hr
      cases g2
      show StpC M2 t (xs ++ [wdC (1, nI (tkK B n s.1 - 214))])
      rw [wd_1 (by omega), show 214 + (tkK B n s.1 - 214) = tkK B n s.1 by omega]
      exact (A1 xs hx hl).re U2
