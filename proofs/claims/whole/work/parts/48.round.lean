/-! THE CLASS'S ROUND, II: ground, bend, the round, settling -/
def ddK : Bool := (List.range 10).all fun i => (List.range 11).all fun k => decide ((nI 2 * (nI i - nI k) + 1).toInt64 = dd i k)
theorem ddK_ok : ddK = true := by decide +kernel
theorem ddK_at {i k : Nat} (hi : i < 10) (hk : k < 11) : ((2 : Int32) * (nI i - nI k) + 1).toInt64 = dd i k := of_decide_eq_true (List.all_eq_true.mp (List.all_eq_true.mp ddK_ok i (List.mem_range.mpr hi)) k (List.mem_range.mpr hk))
def ddH : Bool := (List.range 10).all fun i => (List.range 11).all fun k => (List.range 21).all fun h => decide (¬ (dd i k * dd i k + 16 * (nI h).toInt64 * (nI h).toInt64 = 0))
theorem ddH_ok : ddH = true := by decide +kernel
theorem ddH_at {i k h : Nat} (hi : i < 10) (hk : k < 11) (hh : h < 21) : ¬ (dd i k * dd i k + 16 * (nI h).toInt64 * (nI h).toInt64 = 0) := of_decide_eq_true (List.all_eq_true.mp (List.all_eq_true.mp (List.all_eq_true.mp ddH_ok i (List.mem_range.mpr hi)) k (List.mem_range.mpr hk)) h (List.mem_range.mpr hh))
theorem dnI_s {g : Nat → Int64} {n i k : Nat} {h : Int32} : dnI g n h i (k + 1) = dnI g n h i k + eg g n k * 14549535 * dd i k / (dd i k * dd i k + 16 * h.toInt64 * h.toInt64) := rfl
theorem c_lift (Ω : Om) (M : Mem) (n hh : Nat) (g d0 : Nat → Int64) (by_ : Int64) (K : Ka) (hn : n ≤ 10) (hh20 : hh < 21) (hs : mI M 2 0 4 = nI n) (hH : mI M 6 0 8 = nI hh) (hE : ∀ k, k ≤ n → mJ M 41 0 k = eg g n k) (hD : ∀ i, i < n → mJ M 24 0 i = d0 i)
    (hK : ∀ M', Un wDn M M' → (∀ i, i < n → mJ M' 24 0 i = d0 i - ovS (dnI g n (nI hh) i (n + 1)) by_) → (∀ k, k ≤ n → mJ M' 41 0 k = eg g n k) → K none M') : CallS Ω true m_Solver_liftByGround [vR (some (6, 0)), vJ by_] M K := by
  refine call_go (hJL rfl) (Nat.le_of_ble_eq_true rfl) (go_wp ok_Solver_liftByGround [2] 250 _ _ _ _ _ _ ?_)
  conv => whnf
  refine loopN n (fun i M2 => Un wDn M M2 ∧ (∀ k, k ≤ n → mJ M2 41 0 k = eg g n k) ∧ (∀ i', i' < i → mJ M2 24 0 i' = d0 i' - ovS (dnI g n (nI hh) i' (n + 1)) by_) ∧ ∀ i', i ≤ i' → i' < n → mJ M2 24 0 i' = d0 i')
    (fun i M2 => ∀ (r4 r5 r6 r7 r8 : Option Vl), GoS Ω true m_Solver_liftByGround K 2 [some (vR (some (6, 0))), some (vJ by_), none, some (vI (nI i)), r4, r5, r6, r7, r8] [] M2 0 0) ?_ ?_ 0 M (Nat.zero_le _) ⟨Un.rfl, hE, fun i' h => absurd h (Nat.not_lt_zero _), fun i' _ h => hD i' h⟩ none none none none none
  · rintro i M2 hi ⟨hU, hE, hD1, hD2⟩ hN r4 r5 r6 r7 r8
    have hs2 : mI M2 2 0 4 = nI n := (hU.I rfl).trans hs
    have hH2 : mI M2 6 0 8 = nI hh := (hU.I rfl).trans hH
    refine go_wp ok_Solver_liftByGround [19] 250 _ _ _ _ _ _ ?_
    refine And.intro (fun a => ?_) (fun _ => ?_)
    · rw [hs2, nI_leI (by omega) (by omega)] at a; omega
    conv => whnf
    refine upN (n + 1) (fun k => ∀ (r7 r8 : Option Vl), GoS Ω true m_Solver_liftByGround K 19 [some (vR (some (6, 0))), some (vJ by_), none, some (vI (nI i)), some (vJ (dnI g n (nI hh) i k)), none, some (vI (nI k)), r7, r8] [] M2 0 0) ?_ ?_ 0 (Nat.zero_le _) r7 r8
    · intro k hk hN r7 r8
      refine go_wp ok_Solver_liftByGround [19] 250 _ _ _ _ _ _ ?_
      refine And.intro (fun a => ?_) (fun _ => ?_)
      · rw [hs2, nI_ltI (by omega) (by omega)] at a; omega
      conv => whnf
      refine And.intro (vp_in_nI (by omega) (by decide)) ?_
      rw [nI_clamp (by omega), hE k (by omega), ddK_at (show i < 10 by omega) (show k < 11 by omega)]
      conv => whnf
      rw [hH2]
      refine cl_use (fun K h => c_WH_over Ω M2 _ _ K h) trivial ?_
      conv => whnf
      rw [ovS, if_neg (ddH_at (show i < 10 by omega) (show k < 11 by omega) hh20)]
      have := hN (some (vJ (dd i k))) none
      rw [dnI_s, ← nI_1] at this
      exact this
    · intro r7 r8
      refine go_wp ok_Solver_liftByGround [2] 250 _ _ _ _ _ _ ?_
      refine And.intro (fun _ => ?_) (fun a => ?_)
      · conv => whnf
        refine And.intro (vp_in_nI (by omega) (by decide)) ?_
        rw [nI_clamp (by omega), hD2 i (Nat.le_refl _) hi]
        refine cl_use (fun K h => c_WH_over Ω M2 (dnI g n (nI hh) i (n + 1)) by_ K h) trivial ?_
        conv => whnf
        refine And.intro (vp_in_nI (by omega) (by decide)) ?_
        rw [nI_clamp (by omega)]
        have := hN (sJ M2 24 0 i (d0 i - ovS (dnI g n (nI hh) i (n + 1)) by_)) ⟨hU.pJ rfl, fun k hk => hE k hk, fun i' hi' => ?_, fun i' h1 h2 => ?_⟩ (some (vJ (dnI g n (nI hh) i (n + 1)))) none (some (vI (nI (n + 1)))) r7 r8
        · rw [← nI_1 i] at this
          exact this
        · rw [mJ_sJ]
          by_cases e : i' = i
          · rw [if_pos ⟨rfl, rfl, e⟩, e]
          · rw [if_neg (fun q => e q.2.2)]; exact hD1 i' (by omega)
        · rw [mJ_sJ, if_neg (fun q => by omega)]
          exact hD2 i' (by omega) h2
      · rw [hs2, nI_ltI (by omega) (by omega)] at a; omega
  · rintro M2 ⟨hU, hE, hD1, -⟩ r4 r5 r6 r7 r8
    have hs2 : mI M2 2 0 4 = nI n := (hU.I rfl).trans hs
    refine go_wp ok_Solver_liftByGround [] 250 _ _ _ _ _ _ ?_
    refine And.intro (fun _ => hK M2 hU hD1 hE) (fun a => ?_)
    rw [hs2, nI_leI (by omega) (by omega)] at a; omega
def wBn (k i _s : Nat) : Bool := Nat.beq k 25 && Nat.beq i 0
theorem c_tellBend (Ω : Om) (M : Mem) (n : Nat) (v : Int32) (g : Nat → Int64) (st : Int64) (K : Ka) (hn : n ≤ 10) (hs : mI M 2 0 4 = nI n) (hv : mI M 2 0 5 = v) (hG : ∀ i, i < n → mJ M 23 0 i = g i)
    (hK : ∀ M', Un wBn M M' → (∀ i, i < n → mJ M' 25 0 i = ovS (sm (fun j => sm g n - sm g j) (i + 1) * v.toInt64 * v.toInt64) st) → K none M') : CallS Ω true m_Solver_tellBend [vR (some (6, 0)), vJ st] M K := by
  refine call_go (hJL rfl) (Nat.le_of_ble_eq_true rfl) (go_wp ok_Solver_tellBend [5] 250 _ _ _ _ _ _ ?_)
  conv => whnf
  refine upN n (fun j => GoS Ω true m_Solver_tellBend K 5 [some (vR (some (6, 0))), some (vJ st), none, some (vJ (sm g j)), none, some (vI (nI j)), none, none] [] M 0 0) ?_ ?_ 0 (Nat.zero_le _)
  · intro j hj hN
    refine go_wp ok_Solver_tellBend [5] 250 _ _ _ _ _ _ ?_
    refine And.intro (fun a => ?_) (fun _ => ?_)
    · rw [hs, nI_leI (by omega) (by omega)] at a; omega
    conv => whnf
    refine And.intro (vp_in_nI (by omega) (by decide)) ?_
    rw [nI_clamp (by omega), hG j hj]
    rw [sm, ← nI_1] at hN
    exact hN
  · refine go_wp ok_Solver_tellBend [42] 250 _ _ _ _ _ _ ?_
    refine And.intro (fun _ => ?_) (fun a => ?_)
    · conv => whnf
      have q := loopN n (fun i M2 => Un wBn M M2 ∧ ∀ i', i' < i → mJ M2 25 0 i' = ovS (sm (fun j => sm g n - sm g j) (i' + 1) * v.toInt64 * v.toInt64) st)
        (fun i M2 => GoS Ω true m_Solver_tellBend K 42 [some (vR (some (6, 0))), some (vJ st), none, some (vJ (sm g n - sm g i)), none, some (vJ (sm (fun j => sm g n - sm g j) i)), none, some (vI (nI i))] [] M2 0 0) ?_ ?_ 0 M (Nat.zero_le _) ⟨Un.rfl, fun i' h => absurd h (Nat.not_lt_zero _)⟩
      · rw [show sm g n - sm g 0 = sm g n from Int64.sub_zero _] at q
        exact q
      · rintro i M2 hi ⟨hU, hD⟩ hN
        have hs2 : mI M2 2 0 4 = nI n := (hU.I rfl).trans hs
        have hv2 : mI M2 2 0 5 = v := (hU.I rfl).trans hv
        refine go_wp ok_Solver_tellBend [42] 250 _ _ _ _ _ _ ?_
        refine And.intro (fun a => ?_) (fun _ => ?_)
        · rw [hs2, nI_leI (by omega) (by omega)] at a; omega
        conv => whnf
        refine And.intro (vp_in_nI (by omega) (by decide)) ?_
        rw [nI_clamp (by omega), (hU.J rfl).trans (hG i hi)]
        conv => whnf
        rw [hv2]
        refine cl_use (fun K h => c_WH_over Ω M2 _ _ K h) trivial ?_
        conv => whnf
        refine And.intro (vp_in_nI (by omega) (by decide)) ?_
        rw [nI_clamp (by omega)]
        have := hN (sJ M2 25 0 i (ovS (sm (fun j => sm g n - sm g j) (i + 1) * v.toInt64 * v.toInt64) st)) ⟨hU.pJ rfl, fun i' hi' => ?_⟩
        · have e : sm g n - sm g (i + 1) = sm g n - sm g i - g i := by
            rw [sm]; grind
          rw [e, ← nI_1 i] at this
          exact this
        · rw [mJ_sJ]
          by_cases e : i' = i
          · rw [if_pos ⟨rfl, rfl, e⟩, e]
          · rw [if_neg (fun q => e q.2.2)]; exact hD i' (by omega)
      · rintro M2 ⟨hU, hD⟩
        have hs2 : mI M2 2 0 4 = nI n := (hU.I rfl).trans hs
        refine go_wp ok_Solver_tellBend [] 250 _ _ _ _ _ _ ?_
        refine And.intro (fun _ => hK M2 hU hD) (fun a => ?_)
        rw [hs2, nI_leI (by omega) (by omega)] at a; omega
    · rw [hs, nI_leI (by omega) (by omega)] at a; omega
/-- a law of a text, as the class holds it -/
def ClL (M : Mem) (t k : Nat) (T : Tx) : Prop := mI M 3 (8 * t + k) 2 = T 77 k ∧ ∀ j, j < (T 77 k).toNatClampNeg → mI M 27 (8 * t + k) j = T 78 (8 * k + j) ∧ mI M 28 (8 * t + k) j = T 79 (8 * k + j)
theorem c_lawValue (Ω : Om) (M : Mem) (t k : Nat) (T : Tx) (x : Int64) (K : Ka) (hk : k < 8) (hL : ClL M t k T) (hO : LwOK T k) (h : K (some (vJ (lwT T k x))) M) : CallS Ω true m_Text_lawValue [vR (some (7, t)), vI (nI k), vJ x] M K := by
  refine call_go (hJL rfl) (Nat.le_of_ble_eq_true rfl) (go_wp ok_Text_lawValue [] 250 _ _ _ _ _ _ ?_)
  refine And.intro (fun a => absurd a (nI_pos (by omega))) (fun _ => And.intro (fun a => absurd a (nI_ge (b := 8) (by omega) (by decide))) (fun _ => ?_))
  conv => whnf
  refine And.intro (vp_in_nI (by omega) (by decide)) ?_
  rw [nI_clamp (by omega), rr_law hk]
  refine cl_use (fun K h => c_valueAt Ω M (8 * t + k) _ _ _ x K hO.n.2 (hL.1.trans hO.n.1) (fun j hj => (hL.2 j hj).1) (fun j hj => (hL.2 j hj).2) h) trivial ?_
  exact h
/-- a wing of a text, as the class holds it -/
def ClW (M : Mem) (t w : Nat) (T : Tx) : Prop := mI M 10 (4 * t + w) 0 = T 86 w ∧ mI M 10 (4 * t + w) 6 = T 87 w ∧ mI M 10 (4 * t + w) 7 = T 88 w ∧ mI M 10 (4 * t + w) 8 = T 89 w ∧
  (∀ i, i < wN T w → mI M 57 (4 * t + w) i = T 92 (10 * w + i) ∧ mI M 58 (4 * t + w) i = T 93 (10 * w + i) ∧ mI M 59 (4 * t + w) i = T 94 (10 * w + i) ∧ mI M 60 (4 * t + w) i = T 95 (10 * w + i) ∧ mI M 61 (4 * t + w) i = T 96 (10 * w + i)) ∧
  mI M 10 (4 * t + w) 10 = T 90 w ∧ (T 90 w = 1 → ∀ j, j < 4 → mI M 62 (4 * t + w) j = T 91 (4 * w + j))
/-- the laws of a wing's strips, as the class holds them -/
def ClS (M : Mem) (t w : Nat) (T : Tx) : Prop := ∀ i, i < wN T w → ∀ k, k < 8 → (T 93 (10 * w + i) = nI k ∨ T 94 (10 * w + i) = nI k) → ClL M t k T
def wRd (k i _s : Nat) : Bool := (Nat.ble 23 k && Nat.ble k 26 && Nat.beq i 0) || Nat.beq k 41
theorem wRd_dn : ∀ k i s, wRd k i s = false → wDn k i s = false := by
  intro k i s h
  simp [wRd, wDn, nb_d, nl_d] at h ⊢
  omega
theorem wRd_bn : ∀ k i s, wRd k i s = false → wBn k i s = false := by
  intro k i s h
  simp [wRd, wBn, nb_d, nl_d] at h ⊢
  omega
theorem ClL.un {w : Nat → Nat → Nat → Bool} {M M' : Mem} {t k : Nat} {T : Tx} (h : ClL M t k T) (hU : Un w M M') (h3 : ∀ i s, w 3 i s = false) (h27 : ∀ i s, w 27 i s = false) (h28 : ∀ i s, w 28 i s = false) : ClL M' t k T :=
  ⟨(hU.I (h3 _ _)).trans h.1, fun j hj => ⟨(hU.I (h27 _ _)).trans (h.2 j hj).1, (hU.I (h28 _ _)).trans (h.2 j hj).2⟩⟩
theorem ClW.un {w0 : Nat → Nat → Nat → Bool} {M M' : Mem} {t w : Nat} {T : Tx} (h : ClW M t w T) (hU : Un w0 M M') (h10 : ∀ i s, w0 10 i s = false) (h57 : ∀ k i s, 57 ≤ k → k ≤ 62 → w0 k i s = false) : ClW M' t w T :=
  ⟨(hU.I (h10 _ _)).trans h.1, (hU.I (h10 _ _)).trans h.2.1, (hU.I (h10 _ _)).trans h.2.2.1, (hU.I (h10 _ _)).trans h.2.2.2.1,
   fun i hi => by
    obtain ⟨a, b, c, d, e⟩ := h.2.2.2.2.1 i hi
    exact ⟨(hU.I (h57 _ _ _ (by omega) (by omega))).trans a, (hU.I (h57 _ _ _ (by omega) (by omega))).trans b, (hU.I (h57 _ _ _ (by omega) (by omega))).trans c, (hU.I (h57 _ _ _ (by omega) (by omega))).trans d, (hU.I (h57 _ _ _ (by omega) (by omega))).trans e⟩,
   (hU.I (h10 _ _)).trans h.2.2.2.2.2.1, fun q j hj => (hU.I (h57 _ _ _ (by omega) (by omega))).trans (h.2.2.2.2.2.2 q j hj)⟩
/-- the class's solver set out for a wing -/
def CE (M : Mem) (t : Nat) (E : Ev) : Prop := mR M 6 0 6 = some (7, t) ∧ mR M 6 0 7 = some (10, 4 * t + eW E) ∧ mI M 6 0 8 = eH E ∧ mI M 2 0 4 = nI (eN E) ∧ mI M 2 0 5 = eV E ∧ (∀ i, i < eN E → mJ M 39 0 i = (eB E i).toInt64) ∧ (∀ i, i < eN E → mJ M 40 0 i = eA E i / eY E) ∧
  ClW M t (eW E) (eT E) ∧ ClS M t (eW E) (eT E) ∧ ∀ j, j < 10 → mI M 142 0 j = shT j
def EvOK (E : Ev) : Prop := WgOK (eT E) (eW E) ∧ ∃ hh, hh < 21 ∧ eH E = nI hh
theorem CE.un {M M' : Mem} {t : Nat} {E : Ev} (h : CE M t E) (hU : Un wRd M M') : CE M' t E := by
  obtain ⟨a1, a2, a3, a4, a5, a6, a7, a8, a9, a10⟩ := h
  exact ⟨(hU.R rfl).trans a1, (hU.R rfl).trans a2, (hU.I rfl).trans a3, (hU.I rfl).trans a4, (hU.I rfl).trans a5, fun i hi => (hU.J rfl).trans (a6 i hi), fun i hi => (hU.J rfl).trans (a7 i hi), a8.un hU (fun _ _ => rfl) (fun k i s h1 h2 => by simp [wRd, nb_d, nl_d]; omega), fun i hi k hk q => (a9 i hi k hk q).un hU (fun _ _ => rfl) (fun _ _ => rfl) (fun _ _ => rfl), fun j hj => (hU.I rfl).trans (a10 j hj)⟩
theorem eY_ne {E : Ev} (h : WgOK (eT E) (eW E)) : ¬ eY E = 0 := by
  have hd := h.2.1
  rw [eY]
  intro e
  have e2 := congrArg Int64.toInt e
  rw [J_mul (by rw [I_l, show (14549535 : Int64).toInt = 14549535 from rfl]; omega), I_l, show (14549535 : Int64).toInt = 14549535 from rfl, show (0 : Int64).toInt = 0 from rfl] at e2
  omega
theorem st_0 {x : Int32} (h : 0 ≤ x.toInt ∧ x.toInt ≤ 2000) : ((1000 : Int64) * x.toInt64 = 0 ↔ x = 0) := by
  constructor
  · intro e
    have e2 := congrArg Int64.toInt e
    rw [J_mul (by rw [I_l, show (1000 : Int64).toInt = 1000 from rfl]; omega), I_l, show (1000 : Int64).toInt = 1000 from rfl, show (0 : Int64).toInt = 0 from rfl] at e2
    apply Int32.toInt_inj.mp
    rw [show (0 : Int32).toInt = 0 from rfl]
    omega
  · intro e; rw [e]; rfl
