/-! TURNS, II: feed, twist, lift, law, hinge -/
def shS : Nat → Int32
  | 0 => 24
  | j + 1 => shS j + (-8)
/-- a byte of four -/
def byS (w : Int32) (j : Nat) : Int32 := ((w >>> (shS j &&& 31)).toInt8.toInt32).toInt8.toInt32
def wPf (k _i s : Nat) : Bool := Nat.beq k 63 || (Nat.beq k 11 && Nat.beq s 1)
def wPm (k _i s : Nat) : Bool := Nat.beq k 67 || (Nat.beq k 12 && Nat.beq s 2)
theorem c_putFour (Ω : Om) (M : Mem) (n : Nat) (w : Int32) (K : Ka) (hn : n + 4 ≤ 2000) (h1 : mI M 11 0 1 = nI n) (hK : ∀ M', Un wPf M M' → mI M' 11 0 1 = nI (n + 4) → (∀ j, j < n → mI M' 63 0 j = mI M 63 0 j) → (∀ j, j < 4 → mI M' 63 0 (n + j) = byS w j) → K none M') : CallS Ω true m_WH_putFour [vR (some (11, 0)), vI w] M K := by
  refine call_go (hJL rfl) (Nat.le_of_ble_eq_true rfl) (go_wp ok_WH_putFour [3] 250 _ _ _ _ _ _ ?_)
  conv => whnf
  refine loopN 4 (fun j M2 => Un wPf M M2 ∧ mI M2 11 0 1 = nI (n + j) ∧ (∀ j', j' < n → mI M2 63 0 j' = mI M 63 0 j') ∧ ∀ j', j' < j → mI M2 63 0 (n + j') = byS w j')
    (fun j M2 => GoS Ω true m_WH_putFour K 3 [some (vR (some (11, 0))), some (vI w), some (vI (shS j))] [] M2 0 0) ?_ ?_ 0 M (Nat.zero_le _) ⟨Un.rfl, h1, fun _ _ => rfl, fun j' h => absurd h (Nat.not_lt_zero _)⟩
  · rintro j M2 hj ⟨hU, e1, e2, e3⟩ hN
    refine go_wp ok_WH_putFour [3] 250 _ _ _ _ _ _ ?_
    refine And.intro (fun a => ?_) (fun _ => ?_)
    · rcases (show j = 0 ∨ j = 1 ∨ j = 2 ∨ j = 3 by omega) with rfl | rfl | rfl | rfl <;> exact absurd a (by decide)
    refine And.intro (fun a => ?_) (fun _ => ?_)
    · rw [e1] at a; exact absurd a (nI_ge (b := 2000) (by omega) (by decide))
    conv => whnf
    rw [e1]
    refine And.intro (vp_in_nI (by omega) (by decide)) ?_
    rw [nI_clamp (by omega)]
    conv => whnf
    rw [show mI (sI M2 63 0 (n + j) _) 11 0 1 = nI (n + j) from e1, nI_1]
    refine hN (sI (sI M2 63 0 (n + j) (byS w j)) 11 0 1 (nI (n + j + 1))) ⟨(hU.pI rfl).pI rfl, ?_, fun j' h' => ?_, fun j' h' => ?_⟩
    · rw [mI_sI, if_pos ⟨rfl, rfl, rfl⟩]; rfl
    · rw [mI_sI, if_neg (fun q => absurd q.1 (by decide)), mI_sI, if_neg (fun q => by omega)]; exact e2 j' h'
    · rw [mI_sI, if_neg (fun q => absurd q.1 (by decide)), mI_sI]
      by_cases e : j' = j
      · rw [if_pos ⟨rfl, rfl, by omega⟩, e]
      · rw [if_neg (fun q => by omega)]; exact e3 j' (by omega)
  · rintro M2 ⟨hU, e1, e2, e3⟩
    refine go_wp ok_WH_putFour [] 250 _ _ _ _ _ _ ?_
    exact And.intro (fun _ => hK M2 hU e1 e2 e3) (fun a => absurd (by decide) a)
theorem c_MD_put (Ω : Om) (M : Mem) (n : Nat) (w : Int32) (K : Ka) (hn : n + 4 ≤ 2000) (h1 : mI M 12 0 2 = nI n) (hK : ∀ M', Un wPm M M' → mI M' 12 0 2 = nI (n + 4) → (∀ j, j < n → mI M' 67 0 j = mI M 67 0 j) → (∀ j, j < 4 → mI M' 67 0 (n + j) = byS w j) → K none M') : CallS Ω true m_MD_put [vR (some (12, 0)), vI w] M K := by
  refine call_go (hJL rfl) (Nat.le_of_ble_eq_true rfl) (go_wp ok_MD_put [3] 250 _ _ _ _ _ _ ?_)
  conv => whnf
  refine loopN 4 (fun j M2 => Un wPm M M2 ∧ mI M2 12 0 2 = nI (n + j) ∧ (∀ j', j' < n → mI M2 67 0 j' = mI M 67 0 j') ∧ ∀ j', j' < j → mI M2 67 0 (n + j') = byS w j')
    (fun j M2 => GoS Ω true m_MD_put K 3 [some (vR (some (12, 0))), some (vI w), some (vI (shS j))] [] M2 0 0) ?_ ?_ 0 M (Nat.zero_le _) ⟨Un.rfl, h1, fun _ _ => rfl, fun j' h => absurd h (Nat.not_lt_zero _)⟩
  · rintro j M2 hj ⟨hU, e1, e2, e3⟩ hN
    refine go_wp ok_MD_put [3] 250 _ _ _ _ _ _ ?_
    refine And.intro (fun a => ?_) (fun _ => ?_)
    · rcases (show j = 0 ∨ j = 1 ∨ j = 2 ∨ j = 3 by omega) with rfl | rfl | rfl | rfl <;> exact absurd a (by decide)
    conv => whnf
    rw [e1]
    refine And.intro (vp_in_nI (by omega) (by decide)) ?_
    rw [nI_clamp (by omega)]
    conv => whnf
    rw [show mI (sI M2 67 0 (n + j) _) 12 0 2 = nI (n + j) from e1, nI_1]
    refine hN (sI (sI M2 67 0 (n + j) (byS w j)) 12 0 2 (nI (n + j + 1))) ⟨(hU.pI rfl).pI rfl, ?_, fun j' h' => ?_, fun j' h' => ?_⟩
    · rw [mI_sI, if_pos ⟨rfl, rfl, rfl⟩]; rfl
    · rw [mI_sI, if_neg (fun q => absurd q.1 (by decide)), mI_sI, if_neg (fun q => by omega)]; exact e2 j' h'
    · rw [mI_sI, if_neg (fun q => absurd q.1 (by decide)), mI_sI]
      by_cases e : j' = j
      · rw [if_pos ⟨rfl, rfl, by omega⟩, e]
      · rw [if_neg (fun q => by omega)]; exact e3 j' (by omega)
  · rintro M2 ⟨hU, e1, e2, e3⟩
    refine go_wp ok_MD_put [] 250 _ _ _ _ _ _ ?_
    exact And.intro (fun _ => hK M2 hU e1 e2 e3) (fun a => absurd (by decide) a)
/-- the bytes of five ints -/
def b20 (a b c d e : Int32) (j : Nat) : Int32 := if j < 4 then byS a j else if j < 8 then byS b (j - 4) else if j < 12 then byS c (j - 8) else if j < 16 then byS d (j - 12) else byS e (j - 16)
def FedC (M M' : Mem) (n m : Nat) (f : Nat → Int32) : Prop := Un wPf M M' ∧ mI M' 11 0 1 = nI (n + m) ∧ (∀ j, j < n → mI M' 63 0 j = mI M 63 0 j) ∧ ∀ j, j < m → mI M' 63 0 (n + j) = f j
def FedM (M M' : Mem) (n m : Nat) (f : Nat → Int32) : Prop := Un wPm M M' ∧ mI M' 12 0 2 = nI (n + m) ∧ (∀ j, j < n → mI M' 67 0 j = mI M 67 0 j) ∧ ∀ j, j < m → mI M' 67 0 (n + j) = f j
theorem FedC.step {Ω : Om} {M M1 : Mem} {n m : Nat} {f : Nat → Int32} {w : Int32} (h : FedC M M1 n m f) (hn : n + m + 4 ≤ 2000) (hf : ∀ j, j < 4 → f (m + j) = byS w j) : CallS Ω true m_WH_putFour [vR (some (11, 0)), vI w] M1 (fun r M2 => r = none ∧ FedC M M2 n (m + 4) f) := by
  obtain ⟨a, b, c, d⟩ := h
  refine c_putFour Ω M1 (n + m) w _ hn b (fun M' h1 h2 h3 h4 => ⟨rfl, a.trans h1, h2, fun j hj => (h3 j (by omega)).trans (c j hj), fun j hj => ?_⟩)
  by_cases e : j < m
  · exact (h3 _ (by omega)).trans (d j e)
  · have := h4 (j - m) (by omega)
    rw [show n + m + (j - m) = n + j by omega, ← hf (j - m) (by omega), show m + (j - m) = j by omega] at this
    exact this
theorem FedM.step {Ω : Om} {M M1 : Mem} {n m : Nat} {f : Nat → Int32} {w : Int32} (h : FedM M M1 n m f) (hn : n + m + 4 ≤ 2000) (hf : ∀ j, j < 4 → f (m + j) = byS w j) : CallS Ω true m_MD_put [vR (some (12, 0)), vI w] M1 (fun r M2 => r = none ∧ FedM M M2 n (m + 4) f) := by
  obtain ⟨a, b, c, d⟩ := h
  refine c_MD_put Ω M1 (n + m) w _ hn b (fun M' h1 h2 h3 h4 => ⟨rfl, a.trans h1, h2, fun j hj => (h3 j (by omega)).trans (c j hj), fun j hj => ?_⟩)
  by_cases e : j < m
  · exact (h3 _ (by omega)).trans (d j e)
  · have := h4 (j - m) (by omega)
    rw [show n + m + (j - m) = n + j by omega, ← hf (j - m) (by omega), show m + (j - m) = j by omega] at this
    exact this
theorem b20_0 (a b c d e : Int32) : ∀ j, j < 4 → b20 a b c d e (0 + j) = byS a j := fun j hj => by rw [b20, if_pos (by omega), Nat.zero_add]
theorem b20_4 (a b c d e : Int32) : ∀ j, j < 4 → b20 a b c d e (4 + j) = byS b j := fun j hj => by rw [b20, if_neg (by omega), if_pos (by omega), show 4 + j - 4 = j by omega]
theorem b20_8 (a b c d e : Int32) : ∀ j, j < 4 → b20 a b c d e (8 + j) = byS c j := fun j hj => by rw [b20, if_neg (by omega), if_neg (by omega), if_pos (by omega), show 8 + j - 8 = j by omega]
theorem b20_12 (a b c d e : Int32) : ∀ j, j < 4 → b20 a b c d e (12 + j) = byS d j := fun j hj => by rw [b20, if_neg (by omega), if_neg (by omega), if_neg (by omega), if_pos (by omega), show 12 + j - 12 = j by omega]
theorem b20_16 (a b c d e : Int32) : ∀ j, j < 4 → b20 a b c d e (16 + j) = byS e j := fun j hj => by rw [b20, if_neg (by omega), if_neg (by omega), if_neg (by omega), if_neg (by omega), show 16 + j - 16 = j by omega]
theorem t_feed (Ω : Om) (M : Mem) (a b c d e : Int32) (h : Inv M) : Turn Ω tyI m_WH_feed m_MD_feed [vI a, vI b, vI c, vI d, vI e] M := by
  obtain ⟨nt, o, a1, a2, a3, ⟨m, hm, b1, b2, b3⟩, a5, a6, a7, a8, a9, a10⟩ := id h
  have e20 : nI m + 20 = nI (m + 20) := nI_add m 20
  by_cases hc : m + 20 ≤ 2000
  · refine ⟨fun r M1 => r = some (vI (nI (m + 20))) ∧ FedC M M1 m 20 (b20 a b c d e), ?_, ?_⟩
    · refine call_go (hJL rfl) (Nat.le_of_ble_eq_true rfl) (go_wp ok_WH_feed [] 250 _ _ _ _ _ _ ?_)
      conv => whnf
      rw [b1, e20]
      refine And.intro (fun _ => ?_) (fun q => absurd (nI_le (b := 2000) hc (by decide)) q)
      have F0 : FedC M M m 0 (b20 a b c d e) := ⟨Un.rfl, b1, fun _ _ => rfl, fun j h => absurd h (Nat.not_lt_zero _)⟩
      conv => whnf
      refine ⟨_, F0.step (by omega) (b20_0 a b c d e), trivial, ?_⟩
      rintro r M1 ⟨rfl, F1⟩
      conv => whnf
      refine ⟨_, F1.step (by omega) (b20_4 a b c d e), trivial, ?_⟩
      rintro r M2 ⟨rfl, F2⟩
      conv => whnf
      refine ⟨_, F2.step (by omega) (b20_8 a b c d e), trivial, ?_⟩
      rintro r M3 ⟨rfl, F3⟩
      conv => whnf
      refine ⟨_, F3.step (by omega) (b20_12 a b c d e), trivial, ?_⟩
      rintro r M4 ⟨rfl, F4⟩
      conv => whnf
      refine ⟨_, F4.step (by omega) (b20_16 a b c d e), trivial, ?_⟩
      rintro r M5 ⟨rfl, F5⟩
      conv => whnf
      exact ⟨by rw [F5.2.1], F5⟩
    · rintro r M1 ⟨rfl, FC⟩
      refine ⟨⟨_, rfl⟩, fun s => FC.1.I rfl, ?_⟩
      have c2 : mI M1 12 0 2 = nI m := (FC.1.I rfl).trans b2
      refine call_go (hJL rfl) (Nat.le_of_ble_eq_true rfl) (go_wp ok_MD_feed [] 250 _ _ _ _ _ _ ?_)
      conv => whnf
      rw [c2, e20]
      refine And.intro (fun _ => ?_) (fun q => absurd (nI_le (b := 2000) hc (by decide)) q)
      have F0 : FedM M1 M1 m 0 (b20 a b c d e) := ⟨Un.rfl, c2, fun _ _ => rfl, fun j h => absurd h (Nat.not_lt_zero _)⟩
      conv => whnf
      refine ⟨_, F0.step (by omega) (b20_0 a b c d e), trivial, ?_⟩
      rintro r M2 ⟨rfl, F1⟩
      conv => whnf
      refine ⟨_, F1.step (by omega) (b20_4 a b c d e), trivial, ?_⟩
      rintro r M3 ⟨rfl, F2⟩
      conv => whnf
      refine ⟨_, F2.step (by omega) (b20_8 a b c d e), trivial, ?_⟩
      rintro r M4 ⟨rfl, F3⟩
      conv => whnf
      refine ⟨_, F3.step (by omega) (b20_12 a b c d e), trivial, ?_⟩
      rintro r M5 ⟨rfl, F4⟩
      conv => whnf
      refine ⟨_, F4.step (by omega) (b20_16 a b c d e), trivial, ?_⟩
      rintro r M6 ⟨rfl, F5⟩
      conv => whnf
      have hU : Un (wKF [63, 67] [(11, 1), (12, 2)]) M M6 := by
        refine Un.trans (FC.1.mono fun k i s q => ?_) (F5.1.mono fun k i s q => ?_)
        · simp [wKF, wPf, nb_d] at q ⊢; omega
        · simp [wKF, wPm, nb_d] at q ⊢; omega
      refine ⟨by rw [F5.2.1], ⟨nt, o, a1.un hU rfl rfl, a2.un hU rfl rfl, ?_, ⟨m + 20, by omega, (F5.1.I rfl).trans FC.2.1, F5.2.1, fun i hi => ?_⟩, a5.un hU (fun _ => rfl) (fun _ => rfl), Inv.text a6 hU (by simp; exact ⟨fun _ _ => ⟨rfl, fun _ => rfl⟩, fun _ _ => ⟨rfl, fun _ => rfl⟩⟩) (by simp; exact ⟨fun _ => ⟨rfl, fun _ => rfl⟩, fun _ => ⟨rfl, fun _ => rfl⟩⟩), a7.un hU (fun _ => rfl) (fun _ => rfl) (fun _ => rfl), a8.un hU (fun _ => rfl) (fun _ => rfl), a9.un hU rfl rfl (fun k s hk => ?_), a10.un hU (fun _ => rfl) (fun _ => rfl) (fun _ => rfl) (fun _ => rfl) (fun _ => rfl)⟩, fun s => F5.1.I rfl⟩
      · rw [hU.I (k := 11) (s := 2) rfl, hU.I (k := 12) (s := 17) rfl]; exact a3
      · rw [F5.1.I (k := 63) rfl]
        by_cases e : i < m
        · rw [FC.2.2.1 i e, F5.2.2.1 i e, FC.1.I (k := 67) rfl]; exact b3 i e
        · have q1 := FC.2.2.2 (i - m) (by omega)
          have q2 := F5.2.2.2 (i - m) (by omega)
          rw [show m + (i - m) = i by omega] at q1 q2
          rw [q1, q2]
      · simp [wKF, nb_d]; omega
  · have hc2 : ¬ nI (m + 20) ≤ 2000 := nI_ge (a := 2000) (b := m + 20) (by omega) (by omega)
    refine ⟨fun r M1 => r = some (vI (-1)) ∧ M1 = M, ?_, ?_⟩
    · refine call_go (hJL rfl) (Nat.le_of_ble_eq_true rfl) (go_wp ok_WH_feed [] 250 _ _ _ _ _ _ ?_)
      conv => whnf
      rw [b1, e20]
      exact And.intro (fun q => absurd q hc2) (fun _ => ⟨rfl, rfl⟩)
    · rintro r M1 ⟨rfl, rfl⟩
      refine ⟨⟨_, rfl⟩, fun s => rfl, ?_⟩
      refine call_go (hJL rfl) (Nat.le_of_ble_eq_true rfl) (go_wp ok_MD_feed [] 250 _ _ _ _ _ _ ?_)
      conv => whnf
      rw [b2, e20]
      exact And.intro (fun q => absurd q hc2) (fun _ => ⟨rfl, h, fun _ => rfl⟩)
/-- calls that change nothing on either side -/
theorem turn_pure {Ω : Om} {ty : Option Vl → Prop} {jx jm : Nat} {as : List Vl} {M : Mem} (h : Inv M) (r : Option Vl) (hr : ty r) (hx : ∀ K : Ka, K r M → CallS Ω true jx (vR (some (11, 0)) :: as) M K) (hm : ∀ K : Ka, K r M → CallS Ω true jm (vR (some (12, 0)) :: as) M K) : Turn Ω ty jx jm as M := by
  refine ⟨fun r' M1 => r' = r ∧ M1 = M, hx _ ⟨rfl, rfl⟩, ?_⟩
  rintro r' M1 ⟨rfl, rfl⟩
  exact ⟨hr, fun _ => rfl, hm _ ⟨rfl, h, fun _ => rfl⟩⟩
set_option maxRecDepth 8000 in
theorem t_twist (Ω : Om) (M : Mem) (x : Int32) (h : Inv M) : Turn Ω tyI m_WH_twist m_MD_twist [vI x] M := by
  obtain ⟨nt, o, a1, a2, a3, a4, a5, a6, a7, a8, a9, a10⟩ := id h
  rcases nI_cases x (n := 10) (by decide) with ⟨i, hi, rfl⟩ | hno
  · refine turn_pure h (some (vI (mI M 132 0 i))) ⟨_, rfl⟩ (fun K hK => ?_) (fun K hK => ?_)
    · refine call_go (hJL rfl) (Nat.le_of_ble_eq_true rfl) (go_wp ok_WH_twist [] 250 _ _ _ _ _ _ ?_)
      conv => whnf
      refine cl_use (r := some (vI (mI M 132 0 i))) (M1 := M) (fun K h => ?_) trivial ?_
      · refine call_go (hJL rfl) (Nat.le_of_ble_eq_true rfl) (go_wp ok_Best_twistOf [] 250 _ _ _ _ _ _ ?_)
        refine And.intro (fun a => absurd a (nI_pos (by omega))) (fun _ => And.intro (fun a => absurd a (nI_ge (b := 10) (by omega) (by decide))) (fun _ => ?_))
        conv => whnf
        refine And.intro (vp_in_nI (by omega) (by decide)) ?_
        rw [nI_clamp (by omega), a8 i hi]
        exact h
      · exact hK
    · refine call_go (hJL rfl) (Nat.le_of_ble_eq_true rfl) (go_wp ok_MD_twist [] 250 _ _ _ _ _ _ ?_)
      conv => whnf
      refine cl_use (fun K h => c_MD_in Ω _ (nI i) 0 9 K h) trivial ?_
      rw [show inR 0 9 (nI i) = true from inR_y (n := 10) (by omega) hi]
      refine And.intro (fun a => absurd a (by decide)) (fun _ => ?_)
      conv => whnf
      refine And.intro (vp_in_nI (by omega) (by decide)) ?_
      rw [nI_clamp (by omega)]
      exact hK
  · refine turn_pure h (some (vI (-1000))) ⟨_, rfl⟩ (fun K hK => ?_) (fun K hK => ?_)
    · refine call_go (hJL rfl) (Nat.le_of_ble_eq_true rfl) (go_wp ok_WH_twist [] 250 _ _ _ _ _ _ ?_)
      conv => whnf
      refine cl_use (r := some (vI (-1000))) (M1 := M) (fun K h => ?_) trivial ?_
      · refine call_go (hJL rfl) (Nat.le_of_ble_eq_true rfl) (go_wp ok_Best_twistOf [] 250 _ _ _ _ _ _ ?_)
        refine And.intro (fun a => h) (fun z1 => And.intro (fun a => h) (fun z2 => ?_))
        rcases nI_no (by decide) hno with q | q
        · exact absurd q z1
        · exact absurd q z2
      · exact hK
    · refine call_go (hJL rfl) (Nat.le_of_ble_eq_true rfl) (go_wp ok_MD_twist [] 250 _ _ _ _ _ _ ?_)
      conv => whnf
      refine cl_use (fun K h => c_MD_in Ω _ x 0 9 K h) trivial ?_
      rw [show inR 0 9 x = false from inR_n (n := 10) (by decide) hno]
      exact And.intro (fun _ => hK) (fun a => absurd rfl a)
/-- a slant, counted from 0 on -/
theorem sl_n {s : Int32} (h : inR (-30) 30 s = true) : ∃ k, k < 61 ∧ s + 30 = nI k ∧ s.toInt = (k : Int) - 30 := by
  obtain ⟨h1, h2⟩ := inR_t.mp h
  rw [Int32.le_iff_toInt_le] at h1 h2
  rw [show (-30 : Int32).toInt = -30 from rfl] at h1
  rw [show (30 : Int32).toInt = 30 from rfl] at h2
  refine ⟨(s.toInt + 30).toNat, by omega, ?_, by omega⟩
  apply Int32.toInt_inj.mp
  rw [I_add (by rw [show (30 : Int32).toInt = 30 from rfl]; omega), nI_toInt (by omega), show (30 : Int32).toInt = 30 from rfl]
  omega
theorem t_lift (Ω : Om) (M : Mem) (s : Int32) (h : Inv M) : Turn Ω tyJ m_WH_lift m_MD_lift [vI s] M := by
  obtain ⟨nt, o, a1, a2, a3, a4, a5, a6, a7, a8, a9, a10⟩ := id h
  cases hs : inR (-30) 30 s with
  | true =>
    obtain ⟨k, hk, ek, -⟩ := sl_n hs
    obtain ⟨c1, c2⟩ := a7 k hk
    refine turn_pure h (some (vJ (mJ M 53 0 k))) ⟨_, rfl⟩ (fun K hK => ?_) (fun K hK => ?_)
    · refine call_go (hJL rfl) (Nat.le_of_ble_eq_true rfl) (go_wp ok_WH_lift [] 250 _ _ _ _ _ _ ?_)
      conv => whnf
      refine cl_use (fun K h => c_WH_isSlant Ω _ s K h) trivial ?_
      rw [hs]
      refine And.intro (fun a => absurd a (by decide)) (fun _ => ?_)
      conv => whnf
      rw [ek]
      refine And.intro (vp_in_nI (by omega) (by decide)) ?_
      rw [nI_clamp (by omega)]
      exact hK
    · refine call_go (hJL rfl) (Nat.le_of_ble_eq_true rfl) (go_wp ok_MD_lift [] 250 _ _ _ _ _ _ ?_)
      conv => whnf
      refine cl_use (fun K h => c_MD_isSlant Ω _ s K h) trivial ?_
      rw [hs]
      refine And.intro (fun a => absurd a (by decide)) (fun _ => ?_)
      conv => whnf
      rw [ek]
      refine And.intro (vp_in_nI (by omega) (by decide)) ?_
      rw [nI_clamp (by omega)]
      refine And.intro (fun z => ?_) (fun z => ?_)
      · rw [if_pos z] at c2
        rw [c2] at hK
        exact hK
      · rw [if_neg z] at c2
        conv => whnf
        rw [ek]
        refine And.intro (vp_in_nI (by omega) (by decide)) ?_
        rw [nI_clamp (by omega)]
        rw [c2] at hK
        exact hK
  | false =>
    refine turn_pure h (some (vJ (-1000000000000))) ⟨_, rfl⟩ (fun K hK => ?_) (fun K hK => ?_)
    · refine call_go (hJL rfl) (Nat.le_of_ble_eq_true rfl) (go_wp ok_WH_lift [] 250 _ _ _ _ _ _ ?_)
      conv => whnf
      refine cl_use (fun K h => c_WH_isSlant Ω _ s K h) trivial ?_
      rw [hs]
      exact And.intro (fun _ => hK) (fun a => absurd rfl a)
    · refine call_go (hJL rfl) (Nat.le_of_ble_eq_true rfl) (go_wp ok_MD_lift [] 250 _ _ _ _ _ _ ?_)
      conv => whnf
      refine cl_use (fun K h => c_MD_isSlant Ω _ s K h) trivial ?_
      rw [hs]
      exact And.intro (fun _ => hK) (fun a => absurd rfl a)
