/-! CURVE: what it is, and the class's -/
theorem sl_of {a : Int32} (h : inR (-30) 30 a = true) : ∃ k, k < 61 ∧ a = sl k := by
  obtain ⟨q1, q2⟩ := inR_t.mp h
  have q1 := Int32.le_iff_toInt_le.mp q1
  have q2 := Int32.le_iff_toInt_le.mp q2
  rw [show (-30 : Int32).toInt = -30 from rfl] at q1
  rw [show (30 : Int32).toInt = 30 from rfl] at q2
  refine ⟨(a.toInt + 30).toNat, by omega, ?_⟩
  refine Int32.toInt_inj.mp ?_
  rw [sl_i (by omega)]
  omega
theorem sl_in {k : Nat} (h : k < 61) : inR (-30) 30 (sl k) = true := by
  refine inR_t.mpr ⟨Int32.le_iff_toInt_le.mpr ?_, Int32.le_iff_toInt_le.mpr ?_⟩
  · rw [sl_i (by omega), show (-30 : Int32).toInt = -30 from rfl]; omega
  · rw [sl_i (by omega), show (30 : Int32).toInt = 30 from rfl]; omega
/-- the slant of a step -/
def ix (up : Bool) (a j : Nat) : Nat := if up = true then a + j else a - j
def dI (up : Bool) : Int32 := if up = true then 1 else -1
theorem ix_s {up : Bool} {a j : Nat} (h : up = true ∨ j ≤ a) (h2 : a + j < 200) : sl a + nI j * dI up = sl (ix up a j) := by
  cases up with
  | true =>
    show sl a + nI j * 1 = sl (a + j)
    unfold sl
    rw [← nI_add]
    grind
  | false =>
    have h : j ≤ a := h.resolve_left (by decide)
    show sl a + nI j * (-1) = sl (a - j)
    unfold sl
    rw [← pk_sub h]
    grind
/-- has the lift turned back -/
def flD (up : Bool) (now : Int64) : Option Int64 → Bool
  | none => false
  | some b => if up = true then decide (now < b) else decide (b < now)
/-- the circulation, the stall, the lift before, the lifts -/
abbrev CvT := (Nat → Int64) × Int32 × Option Int64 × (Nat → Option Int64)
def cvN (T : Tx) (w : Nat) (v : Int32) (ha : Nat → Int32) (up : Bool) (i : Nat) (p : CvT) : CvT :=
  if rnR (evR T w v (sl i) ha) p.1 = -2 then p else
    (rnG (evR T w v (sl i) ha) p.1, if p.2.1 = -100 ∧ flD up (liS (wN T w) v (rnG (evR T w v (sl i) ha) p.1)) p.2.2.1 = true then sl i else p.2.1, some (liS (wN T w) v (rnG (evR T w v (sl i) ha) p.1)), fun k => if k = i then some (liS (wN T w) v (rnG (evR T w v (sl i) ha) p.1)) else p.2.2.2 k)
def cvS (T : Tx) (w : Nat) (v : Int32) (ha : Nat → Int32) (up : Bool) (a : Nat) : Nat → CvT
  | 0 => (z0, -100, none, fun _ => none)
  | j + 1 => cvN T w v ha up (ix up a j) (cvS T w v ha up a j)
def LvO (o : Option Int64) : Prop := ∀ b, o = some b → -1500000 ≤ b.toInt ∧ b.toInt ≤ 1500000
theorem cv_bd {T : Tx} {w : Nat} {v : Int32} {ha : Nat → Int32} {up : Bool} {a : Nat} (hW : WgOK T w) (hv : 1 ≤ v.toInt ∧ v.toInt ≤ 40) : ∀ j, GB (wN T w) (cvS T w v ha up a j).1 ∧ LvO (cvS T w v ha up a j).2.2.1 := by
  intro j
  induction j with
  | zero => exact ⟨z0_bd, fun b h => by cases h⟩
  | succ j ih =>
    rw [cvS, cvN]
    split
    · exact ih
    · have hg : GB (wN T w) (rnG (evR T w v (sl (ix up a j)) ha) (cvS T w v ha up a j).1) := rn_bd (E := evR T w v (sl (ix up a j)) ha) hW 120 1 _ ih.1
      exact ⟨hg, fun b h => by
        obtain rfl : liS (wN T w) v (rnG (evR T w v (sl (ix up a j)) ha) (cvS T w v ha up a j).1) = b := Option.some.inj h
        exact li_bd hW.n.2.2.1 hg hv⟩
/-- the class's compare -/
theorem fl_cmp {up : Bool} {now b : Int64} (hn : -1500000 ≤ now.toInt ∧ now.toInt ≤ 1500000) (hb : -1500000 ≤ b.toInt ∧ b.toInt ≤ 1500000) : (now - b) * (dI up).toInt64 < 0 ↔ flD up now (some b) = true := by
  have e1 : (now - b).toInt = now.toInt - b.toInt := J_sub (by omega)
  have e0 : (0 : Int64).toInt = 0 := rfl
  cases up with
  | true =>
    show (now - b) * (1 : Int32).toInt64 < 0 ↔ decide (now < b) = true
    have e2 : ((now - b) * (1 : Int32).toInt64).toInt = now.toInt - b.toInt := by
      rw [J_mul (by rw [e1, I_l, show (1 : Int32).toInt = 1 from rfl]; omega), e1, I_l, show (1 : Int32).toInt = 1 from rfl]; omega
    rw [Int64.lt_iff_toInt_lt, e2, e0, decide_eq_true_iff, Int64.lt_iff_toInt_lt]
    omega
  | false =>
    show (now - b) * (-1 : Int32).toInt64 < 0 ↔ decide (b < now) = true
    have e2 : ((now - b) * (-1 : Int32).toInt64).toInt = b.toInt - now.toInt := by
      rw [J_mul (by rw [e1, I_l, show (-1 : Int32).toInt = -1 from rfl]; omega), e1, I_l, show (-1 : Int32).toInt = -1 from rfl]; omega
    rw [Int64.lt_iff_toInt_lt, e2, e0, decide_eq_true_iff, Int64.lt_iff_toInt_lt]
    omega
def wCv (k i s : Nat) : Bool := (wSo k i s || wFl 1 k i s) || Nat.beq k 53
theorem wCv_so : ∀ k i s, wCv k i s = false → wSo k i s = false := fun k i s h => (Bool.or_eq_false_iff.mp (Bool.or_eq_false_iff.mp h).1).1
theorem wCv_f1 : ∀ k i s, wCv k i s = false → wFl 1 k i s = false := fun k i s h => (Bool.or_eq_false_iff.mp (Bool.or_eq_false_iff.mp h).1).2
/-- what no turn needs, and the curve -/
def wY (k i s : Nat) : Bool := wX k i s || (Nat.beq k 53 || (Nat.beq k 125 || Nat.beq k 126))
theorem wY_x : ∀ k i s, wY k i s = false → wX k i s = false := fun k i s h => (Bool.or_eq_false_iff.mp h).1
theorem wY_Cv : ∀ k i s, wY k i s = false → wCv k i s = false := fun k i s h => by
  have h1 := wY_x k i s h
  have h2 : Nat.beq k 53 = false := (Bool.or_eq_false_iff.mp (Bool.or_eq_false_iff.mp h).2).1
  unfold wCv
  rw [sc_So k i s h1, sc_F1 k i s h1, h2]
  rfl
theorem mC_Cv : ∀ k i s, wCv k i s = true → wC k i s = true := fun k i s h => by
  simp [wCv, wSo, wFl, nb_d, nl_d] at h
  simp [wC, nb_d, nl_d]; omega
theorem wY_tx : Av cTx wY := fun k i s q => by
  have h1 : cAll k i s = true := by unfold cAll; rw [q]; rfl
  unfold wY wX
  rw [h1]
  cases e : (Nat.beq k 53 || (Nat.beq k 125 || Nat.beq k 126)) with
  | false => rfl
  | true =>
    simp [nb_d] at e
    rcases e with rfl | rfl | rfl <;> cases q
/-- what the class knows after some steps -/
def CvC (M : Mem) (n : Nat) (v : Int32) (p : CvT) : Prop := (∀ i, i < n → mJ M 23 1 i = p.1 i) ∧ mI M 2 1 4 = nI n ∧ mI M 2 1 5 = v ∧ ∀ k, k < 61 → mJ M 53 0 k = (p.2.2.2 k).getD (-1000000000000)
theorem RwY.okY {M M' : Mem} {o : Option Nat} {x : Int32} {t w : Nat} (h : RwY M o x t w) (hU : Un wY M M') : WgOK (pg M t) w ∧ ClW M' t w (pg M t) ∧ ClS M' t w (pg M t) ∧ (∀ h, h < 4 → mI M' 44 t h = pg M t 83 h) := by
  have q := (h.un hU wY_tx).ok
  rw [pg_av hU wY_tx t] at q
  exact ⟨q.1, q.2.1, q.2.2.1, q.2.2.2.1⟩
theorem Sta.y {M M' : Mem} (h : Sta M) (hU : Un wY M M') : Sta M' := h.un hU (fun _ => rfl) (fun _ => rfl) (fun _ => rfl) (fun _ => rfl) (fun _ => rfl)
/-- one step of the class -/
theorem cc_step (Ω : Om) (M1 : Mem) (t w : Nat) (T : Tx) (v s : Int32) (ha : Nat → Int32) (g : Nat → Int64) (hW : WgOK T w) (hC : ClW M1 t w T) (hL : ClS M1 t w T) (h44 : ∀ h, h < 4 → mI M1 44 t h = ha h) (hS : Sta M1) (hg : GB (wN T w) g) (hg1 : ∀ i, i < wN T w → mJ M1 23 1 i = g i) (N : Mem → Prop)
    (hN : ∀ M', Un wSo M1 M' → mI M' 2 0 4 = nI (wN T w) → mI M' 2 0 5 = v → (¬ rnR (evR T w v s ha) g = -2 → ∀ i, i < wN T w → mJ M' 23 0 i = rnG (evR T w v s ha) g i) → N M') :
    ∃ K0 : Ka, CallS Ω true m_Solver_setOut [vR (some (6, 0)), vR (some (7, t)), vR (some (10, 4 * t + w)), vI v, vI s, vR (some (44, t)), vR (some (37, 0))] M1 K0 ∧ True ∧ ∀ r M2, K0 r M2 → r = none ∧
    ∃ K1 : Ka, CallS Ω true m_Flow_startFrom [vR (some (2, 0)), vR (some (2, 1))] M2 K1 ∧ True ∧ ∀ r M3, K1 r M3 → r = none ∧
    ∃ K2 : Ka, CallS Ω true m_Solver_settle [vR (some (6, 0))] M3 K2 ∧ True ∧ ∀ r M4, K2 r M4 → r = some (vI (rnR (evR T w v s ha) g)) ∧ N M4 := by
  have hn3 := hW.n.2.2.1
  refine ⟨fun r M' => r = none ∧ Un wSo M1 M' ∧ CE M' t (evR T w v s ha), c_setOut Ω M1 t w 44 t 37 T v s ha (fun _ => 0) _ hW hC hL hS.2.2.1 rfl rfl (fun _ => rfl) (fun _ => rfl) h44 hS.1 (fun M' a b c d e => ⟨rfl, a, b⟩), trivial, ?_⟩
  rintro r M2 ⟨rfl, hU2, hE2⟩
  refine ⟨rfl, fun r M' => r = none ∧ M' = sCpJ M2 23 1 23 0 0 0 10, c_startFrom Ω M2 0 1 _ ⟨rfl, rfl⟩, trivial, ?_⟩
  rintro r M3 ⟨rfl, e3⟩
  have hU3 : Un wRd M2 M3 := by rw [e3]; exact Un.cp Un.rfl (fun _ => rfl)
  have g3 : ∀ i, i < 10 → mJ M3 23 0 i = mJ M2 23 1 i := fun i hi => by rw [e3, mJ_cp, if_pos ⟨rfl, rfl, hi⟩]
  clear e3
  have hE3 := hE2.un hU3
  refine ⟨rfl, fun r M' => r = some (vI (rnR (evR T w v s ha) g)) ∧ Un wRd M3 M' ∧ (¬ rnR (evR T w v s ha) g = -2 → CF M' (wN T w) (rnG (evR T w v s ha) g) (dnS (evR T w v s ha) (rnG (evR T w v s ha) g)) (bnS (evR T w v s ha) (rnG (evR T w v s ha) g)) (anS (evR T w v s ha) (rnG (evR T w v s ha) g))), c_settle Ω M3 t (evR T w v s ha) g _ hE3 (evR_ok hW) hg (fun i hi => ?_) (fun M' a b => ⟨rfl, a, b⟩), trivial, ?_⟩
  · have hi : i < wN T w := hi
    rw [g3 i (by omega), hU2.J rfl]
    exact hg1 i hi
  rintro r M4 ⟨rfl, hU4, hF⟩
  have hE4 := hE3.un hU4
  exact ⟨rfl, hN M4 (hU2.trans ((hU3.trans hU4).mono wSo_rd)) hE4.2.2.2.1 hE4.2.2.2.2.1 (fun z i hi => (hF z i hi).1)⟩
def cvM (a b : Nat) : Nat := if a ≤ b then b - a else a - b
theorem cv_abs {a b : Nat} (ha : a < 61) (hb : b < 61) : (if 0 ≤ sl b - sl a then sl b - sl a else 0 - (sl b - sl a)) = nI (cvM a b) := by
  unfold cvM
  by_cases c : a ≤ b
  · have e : sl b - sl a = nI (b - a) := by rw [← pk_sub c]; unfold sl; grind
    rw [if_pos c, e, if_pos (show (0 : Int32) ≤ nI (b - a) from Int32.not_lt.mp (nI_pos (by omega)))]
  · have e : sl b - sl a = 0 - nI (a - b) := by rw [← pk_sub (by omega : b ≤ a)]; unfold sl; grind
    have h : ¬ (0 : Int32) ≤ 0 - nI (a - b) := by
      intro q
      have q := Int32.le_iff_toInt_le.mp q
      rw [I_sub (by rw [nI_toInt (by omega), show (0 : Int32).toInt = 0 from rfl]; omega), nI_toInt (by omega), show (0 : Int32).toInt = 0 from rfl] at q
      omega
    rw [if_neg c, e, if_neg h]
    grind
theorem c_drawCurve (Ω : Om) (M : Mem) (o : Option Nat) (x : Int32) (t w : Nat) (v : Int32) (ia ib : Nat) (K : Ka) (hY : RwY M o x t w) (hS : Sta M) (hv : inR 1 40 v = true) (ha : ia < 61) (hb : ib < 61)
    (hK : ∀ M', Un wCv M M' → (∀ k, k < 61 → mJ M' 53 0 k = ((cvS (pg M t) w v (pg M t 83) (decide (ia ≤ ib)) ia (cvM ia ib + 1)).2.2.2 k).getD (-1000000000000)) → K (some (vI (cvS (pg M t) w v (pg M t 83) (decide (ia ≤ ib)) ia (cvM ia ib + 1)).2.1)) M') :
    CallS Ω true m_Trials_drawCurve [vR (some (9, 0)), vR (some (7, t)), vR (some (10, 4 * t + w)), vI v, vI (sl ia), vI (sl ib)] M K := by
  obtain ⟨hW, hC0, -⟩ := hY.ok
  have hn3 := hW.n.2.2.1
  have e10 : mI M 10 (4 * t + w) 0 = nI (wN (pg M t) w) := hC0.1.trans hW.n.1
  refine call_go (hJL rfl) (Nat.le_of_ble_eq_true rfl) (go_wp ok_Trials_drawCurve [34] 250 _ _ _ _ _ _ ?_)
  conv => whnf
  refine cl_use (fun K h => c_fillJ Ω true M 53 0 61 (-1000000000000) K rfl (by decide) h) trivial ?_
  conv => whnf
  generalize hM1 : sFillJ M 53 0 61 (-1000000000000) = M1
  have hU1 : Un wCv M M1 := by rw [← hM1]; exact Un.fJ Un.rfl (fun _ => rfl)
  have h53 : ∀ k, k < 61 → mJ M1 53 0 k = -1000000000000 := fun k hk => by rw [← hM1, mJ_fillJ, if_pos ⟨rfl, rfl, hk⟩]
  rw [show mI M1 10 (4 * t + w) 0 = nI (wN (pg M t) w) by rw [← hM1]; exact e10]
  clear hM1
  refine ⟨fun r M' => r = none ∧ Un (wFl 1) M1 M' ∧ (∀ i, i < 10 → mJ M' 23 1 i = 0) ∧ mI M' 2 1 4 = nI (wN (pg M t) w) ∧ mI M' 2 1 5 = v, c_rest Ω M1 1 (nI (wN (pg M t) w)) v _ (fun M' a b c d e => ⟨rfl, a, b, c.trans (if_neg (show ¬ (10 : Int32) < nI (wN (pg M t) w) from nI_nlt (a := 10) hn3 (by decide))), d⟩), trivial, ?_⟩
  rintro r M2 ⟨rfl, hU2, h23, h24, h25⟩
  have hU2' : Un wCv M M2 := hU1.trans (hU2.mono wCv_f1)
  have hc0 : CvC M2 (wN (pg M t) w) v (cvS (pg M t) w v (pg M t 83) (decide (ia ≤ ib)) ia 0) := ⟨fun i hi => h23 i (by omega), h24, h25, fun k hk => (hU2.J rfl).trans (h53 k hk)⟩
  generalize hup : decide (ia ≤ ib) = up at hK hc0
  generalize hm : cvM ia ib = m at hK
  have hm61 : m < 61 := by rw [← hm, cvM]; split <;> omega
  have hix : ∀ j, j ≤ m → ix up ia j < 61 ∧ sl ia + nI j * dI up = sl (ix up ia j) := by
    intro j hj
    rw [← hm] at hj
    unfold cvM at hj
    by_cases c : ia ≤ ib
    · rw [if_pos c] at hj
      rw [← hup, decide_eq_true c]
      exact ⟨show ia + j < 61 by omega, ix_s (Or.inl rfl) (by omega)⟩
    · rw [if_neg c] at hj
      rw [← hup, decide_eq_false c]
      exact ⟨show ia - j < 61 by omega, ix_s (Or.inr (by omega)) (by omega)⟩
  have rest : ∀ r8 r9 r10 r11 r12 r13 : Option Vl, GoS Ω true m_Trials_drawCurve K 34 [some (vR (some (9, 0))), some (vR (some (7, t))), some (vR (some (10, 4 * t + w))), some (vI v), some (vI (sl ia)), some (vI (sl ib)), none, none, r8, r9, r10, r11, r12, r13] [vI (dI up)] M2 0 0 := by
    intro r8 r9 r10 r11 r12 r13
    refine go_wp ok_Trials_drawCurve [48] 250 _ _ _ _ _ _ ?_
    conv => whnf
    refine loopN (m + 1) (fun j M3 => Un wCv M M3 ∧ CvC M3 (wN (pg M t) w) v (cvS (pg M t) w v (pg M t 83) up ia j))
      (fun j M3 => ∀ r11 r12 r13 : Option Vl, GoS Ω true m_Trials_drawCurve K 48 [some (vR (some (9, 0))), some (vR (some (7, t))), some (vR (some (10, 4 * t + w))), some (vI v), some (vI (sl ia)), some (vI (sl ib)), some (vI (dI up)), some (vI (cvS (pg M t) w v (pg M t 83) up ia j).2.1), some (vJ ((cvS (pg M t) w v (pg M t 83) up ia j).2.2.1.getD (-1000000000000))), none, some (vI (nI j)), r11, r12, r13] [] M3 0 0) ?_ ?_ 0 M2 (Nat.zero_le _) ⟨hU2', hc0⟩ r11 r12 r13
    · rintro j M3 hj ⟨hU3, g1, g4, g5, g53⟩ hN r11 r12 r13
      refine go_wp ok_Trials_drawCurve [48, 173] 250 _ _ _ _ _ _ ?_
      refine And.intro (fun q => ?_) (fun _ => ?_)
      · rw [cv_abs ha hb, hm, nI_ltI (by omega) (by omega)] at q; omega
      refine And.intro (fun a => absurd a (nI_ge (b := 61) (by omega) (by decide))) (fun _ => ?_)
      conv => whnf
      obtain ⟨i61, ei⟩ := hix j (by omega)
      rw [ei]
      have hYY := hU3.mono wY_Cv
      obtain ⟨-, hC, hL, h44⟩ := hY.okY hYY
      have hbd := cv_bd (ha := pg M t 83) (up := up) (a := ia) hW (inR_v hv) j
      have hbd2 := (cv_bd (ha := pg M t 83) (up := up) (a := ia) hW (inR_v hv) (j + 1)).2
      rw [cvS] at hN hbd2
      generalize cvS (pg M t) w v (pg M t 83) up ia j = p at *
      generalize ix up ia j = i at *
      have hq := cc_step Ω M3 t w (pg M t) v (sl i) (pg M t 83) p.1 hW hC hL h44 (hS.y hYY) hbd.1 g1 (fun M' => Un wSo M3 M' ∧ mI M' 2 0 4 = nI (wN (pg M t) w) ∧ mI M' 2 0 5 = v ∧ (¬ rnR (evR (pg M t) w v (sl i) (pg M t 83)) p.1 = -2 → ∀ k, k < wN (pg M t) w → mJ M' 23 0 k = rnG (evR (pg M t) w v (sl i) (pg M t 83)) p.1 k)) (fun M' a b c d => ⟨a, b, c, d⟩)
      obtain ⟨K0, c0, -, c1⟩ := hq
      refine ⟨K0, c0, trivial, ?_⟩
      intro r M4 hr
      obtain ⟨rfl, K1, c2, -, c3⟩ := c1 r M4 hr
      conv => whnf
      refine ⟨K1, c2, trivial, ?_⟩
      intro r M5 hr
      obtain ⟨rfl, K2, c4, -, c5⟩ := c3 r M5 hr
      conv => whnf
      refine ⟨K2, c4, trivial, ?_⟩
      intro r M6 hr
      obtain ⟨rfl, f1, f4, f5, f23⟩ := c5 r M6 hr
      have hU6 : Un wCv M M6 := hU3.trans (f1.mono wCv_so)
      have k1 : ∀ i, i < wN (pg M t) w → mJ M6 23 1 i = p.1 i := fun i hi => (f1.J rfl).trans (g1 i hi)
      have k4 : mI M6 2 1 4 = nI (wN (pg M t) w) := (f1.I rfl).trans g4
      have k5 : mI M6 2 1 5 = v := (f1.I rfl).trans g5
      have k53 : ∀ k, k < 61 → mJ M6 53 0 k = (p.2.2.2 k).getD (-1000000000000) := fun k hk => (f1.J rfl).trans (g53 k hk)
      conv => whnf
      refine And.intro (fun z => ?_) (fun z => ?_)
      · rw [cvN, if_pos z] at hN
        have := hN M6 ⟨hU6, k1, k4, k5, k53⟩ (some (vI (sl i))) r12 r13
        rw [← nI_1] at this
        exact this
      · generalize hG : rnG (evR (pg M t) w v (sl i) (pg M t 83)) p.1 = G at *
        have f23 := f23 z
        rw [cvN, if_neg z, hG] at hN hbd2
        generalize hlf : liS (wN (pg M t) w) v G = lf at *
        conv => whnf
        refine cl_use (fun K h => c_WH_isSlant Ω _ (sl i) K h) trivial ?_
        rw [sl_in i61]
        refine And.intro (fun _ => ?_) (fun a => absurd a (by decide))
        conv => whnf
        refine ⟨fun r M' => r = none ∧ Un (wFl 1) M6 M' ∧ (∀ i, i < 10 → mJ M' 23 1 i = mJ M6 23 0 i) ∧ mI M' 2 1 4 = mI M6 2 0 4 ∧ mI M' 2 1 5 = mI M6 2 0 5, c_keep Ω M6 1 0 (by decide) _ (fun M' a b c d e => ⟨rfl, a, fun i hi => (b i hi).1, c, d⟩), trivial, ?_⟩
        rintro r M7 ⟨rfl, hU7, b1, b4, b5⟩
        have b23 : ∀ k, k < wN (pg M t) w → mJ M7 23 1 k = G k := fun k hk => (b1 k (by omega)).trans (f23 k hk)
        conv => whnf
        refine cl_use (fun K h => c_liftNow Ω M7 1 (wN (pg M t) w) v G K hn3 (b4.trans f4) (b5.trans f5) b23 h) trivial ?_
        rw [hlf]
        conv => whnf
        refine And.intro (by rw [sl_30]; exact vp_in_nI (by omega) (by decide)) ?_
        rw [sl_30, nI_clamp (by omega)]
        have hU8 : Un wCv M (sJ M7 53 0 i lf) := (hU6.trans (hU7.mono wCv_f1)).pJ rfl
        have q53 : ∀ k, k < 61 → mJ (sJ M7 53 0 i lf) 53 0 k = ((fun k => if k = i then some lf else p.2.2.2 k) k).getD (-1000000000000) := fun k hk => by
          rw [mJ_sJ]
          by_cases e : k = i
          · rw [if_pos ⟨rfl, rfl, e⟩]
            show _ = (if k = i then some lf else p.2.2.2 k).getD _
            rw [if_pos e]; rfl
          · rw [if_neg (fun q => e q.2.2)]
            show _ = (if k = i then some lf else p.2.2.2 k).getD _
            rw [if_neg e, hU7.J rfl]
            exact k53 k hk
        have q1 : ∀ k, k < wN (pg M t) w → mJ (sJ M7 53 0 i lf) 23 1 k = G k := b23
        have q4 : mI (sJ M7 53 0 i lf) 2 1 4 = nI (wN (pg M t) w) := b4.trans f4
        have q5 : mI (sJ M7 53 0 i lf) 2 1 5 = v := b5.trans f5
        generalize sJ M7 53 0 i lf = M8 at hU8 q53 q1 q4 q5
        have nx : ∀ st : Int32, st = (if p.2.1 = -100 ∧ flD up lf p.2.2.1 = true then sl i else p.2.1) → ∀ r9 r13 : Option Vl, GoS Ω true m_Trials_drawCurve K 207 [some (vR (some (9, 0))), some (vR (some (7, t))), some (vR (some (10, 4 * t + w))), some (vI v), some (vI (sl ia)), some (vI (sl ib)), some (vI (dI up)), some (vI st), some (vJ (p.2.2.1.getD (-1000000000000))), none, some (vI (nI j)), some (vI (sl i)), some (vJ lf), none] [] M8 0 0 := by
          intro st hst r9 r13
          refine go_wp ok_Trials_drawCurve [48] 250 _ _ _ _ _ _ ?_
          conv => whnf
          have := hN M8 ⟨hU8, q1, q4, q5, q53⟩ (some (vI (sl i))) (some (vJ lf)) none
          rw [← hst, ← nI_1] at this
          exact this
        have mid : GoS Ω true m_Trials_drawCurve K 173 [some (vR (some (9, 0))), some (vR (some (7, t))), some (vR (some (10, 4 * t + w))), some (vI v), some (vI (sl ia)), some (vI (sl ib)), some (vI (dI up)), some (vI p.2.1), some (vJ (p.2.2.1.getD (-1000000000000))), none, some (vI (nI j)), some (vI (sl i)), some (vJ lf), none] [] M8 0 0 := by
          refine go_wp ok_Trials_drawCurve [207] 250 _ _ _ _ _ _ ?_
          refine And.intro (fun z1 => ?_) (fun z1 => ?_)
          · exact nx _ (if_neg (fun q => z1 q.1)).symm none none
          conv => whnf
          have hp2 := hbd.2
          generalize p.2.2.1 = ob at nx hp2 ⊢
          refine And.intro (fun z2 => ?_) (fun z2 => ?_)
          · have z2 := (lg_cmp_eq _ _).mp z2
            cases ob with
            | none => exact nx _ (if_neg (fun q => absurd (show false = true from q.2) Bool.false_ne_true)).symm none none
            | some b =>
              have := hp2 b rfl
              rw [show b = -1000000000000 from z2, show (-1000000000000 : Int64).toInt = -1000000000000 from rfl] at this
              omega
          · have z2 : ¬ ob.getD (-1000000000000) = -1000000000000 := fun q => z2 ((lg_cmp_eq _ _).mpr q)
            cases ob with
            | none => exact absurd rfl z2
            | some b =>
              have hc := fl_cmp (up := up) (hbd2 lf rfl) (hp2 b rfl)
              refine And.intro (fun z3 => ?_) (fun z3 => ?_)
              · have z3 := (lg_cmp_ge _ _).mp z3
                exact nx _ (if_neg (fun q => absurd (hc.mpr q.2) (Int64.not_lt.mpr z3))).symm none none
              · have z3 : (lf - b) * (dI up).toInt64 < 0 := Int64.not_le.mp (fun q => z3 ((lg_cmp_ge _ _).mpr q))
                conv => whnf
                exact nx _ (if_pos ⟨z1, hc.mp z3⟩).symm none none
        exact mid
    · rintro M3 ⟨hU3, g1, g4, g5, g53⟩ r11 r12 r13
      refine go_wp ok_Trials_drawCurve [] 250 _ _ _ _ _ _ ?_
      refine And.intro (fun _ => ?_) (fun q => ?_)
      · exact hK M3 hU3 g53
      · rw [cv_abs ha hb, hm, nI_ltI (by omega) (by omega)] at q; omega
  conv => whnf
  have e3 : sl ib < sl ia ↔ ib < ia := by
    rw [Int32.lt_iff_toInt_lt, sl_i (by omega), sl_i (by omega)]
    omega
  refine And.intro (fun q => ?_) (fun q => ?_)
  · have e : up = false := by rw [← hup]; exact decide_eq_false (by rw [e3] at q; omega)
    conv => whnf
    have := rest none none none none none none
    rw [e] at this
    exact this
  · have e : up = true := by rw [← hup]; exact decide_eq_true (by rw [e3] at q; omega)
    conv => whnf
    have := rest none none none none none none
    rw [e] at this
    exact this
