/-! TURNS, XIV: fits, out -/
def ruI (M : Mem) (r : Nat) : Prop := RuC M r (mI M 135 0 r).toNatClampNeg (mI M 136 0 r) (mI M 137 0 r) (mI M 138 0 r) (mI M 139 0 r) ∧ RuM M r (mI M 135 0 r).toNatClampNeg (mI M 136 0 r) (mI M 137 0 r) (mI M 138 0 r) (mI M 139 0 r) ∧ RuB (mI M 135 0 r).toNatClampNeg (mI M 136 0 r) (mI M 137 0 r) (mI M 138 0 r) (mI M 139 0 r)
theorem RnR.ru {M : Mem} {r : Nat} (h : RnR M r) (e : mI M 134 0 r = -1) : ruI M r := by
  obtain ⟨f1, f2, f3, f4, f5, ⟨w, hw, ew⟩, f6, f7, f8, f9⟩ := h.run e
  have e2 : (mI M 135 0 r).toNatClampNeg = w := by rw [ew, nI_clamp (by omega)]
  unfold ruI
  rw [e2]
  exact ⟨⟨f1.trans ew, f2, f3, f4, f5⟩, ⟨ew, rfl, rfl, rfl, rfl⟩, hw, f6, f7, f8, f9⟩
/-- a text fits a run, by what the model holds -/
def fiM (M : Mem) (t nw r : Nat) : Bool := fiS (pg M t) nw (mI M 135 0 r).toNatClampNeg (mI M 136 0 r) (mI M 137 0 r) (mI M 138 0 r) (mI M 139 0 r)
theorem fiM_un {M M' : Mem} {t nw r : Nat} (hU : Un wX M M') : fiM M' t nw r = fiM M t nw r := by
  unfold fiM
  rw [pg_av hU wX_tx t, hU.I (k := 135) rfl, hU.I (k := 136) rfl, hU.I (k := 137) rfl, hU.I (k := 138) rfl, hU.I (k := 139) rfl]
theorem ruI_un {M M' : Mem} {r : Nat} (h : ruI M r) (hU : Un wX M M') : ruI M' r := by
  unfold ruI RuC RuM at h ⊢
  rw [hU.I (k := 135) rfl, hU.I (k := 136) rfl, hU.I (k := 137) rfl, hU.I (k := 138) rfl, hU.I (k := 139) rfl, hU.I (k := 31) rfl, hU.I (k := 32) rfl, hU.I (k := 33) rfl, hU.I (k := 34) rfl, hU.I (k := 35) rfl]
  exact h
set_option maxRecDepth 8000 in
theorem t_fits (Ω : Om) (M : Mem) (x y : Int32) (h : Inv M) : Turn Ω tyI m_WH_fits m_MD_fits [vI x, vI y] M := by
  obtain ⟨nt, o, a1, a2, a3, a4, a5, a6, a7, a8, ⟨nr, hr, d1, d2, d3⟩, a10⟩ := id h
  have hn4 := a1.1
  by_cases hc : (∃ t, t < nt ∧ x = nI t) ∧ ∃ r, r < nr ∧ y = nI r ∧ mI M 134 0 r = -1
  · obtain ⟨⟨t, ht, rfl⟩, r, hlt, rfl, e134⟩ := hc
    have hR := d3 r hlt
    have hu := hR.ru e134
    obtain ⟨⟨nl, nh, nw, nb, Ls, hX⟩, -⟩ := a6 t ht
    refine turn_scr h (some (vI (bI (fiM M t nw r)))) ⟨_, rfl⟩ (fun K hK => ?_) (fun M1 p1 p2 K hK => ?_)
    · refine call_go (hJL rfl) (Nat.le_of_ble_eq_true rfl) (go_wp ok_WH_fits [] 250 _ _ _ _ _ _ ?_)
      conv => whnf
      refine cl_use (fun K h => c_textOf1 Ω M nt t K hn4 a1.2.1 ht h) trivial ?_
      conv => whnf
      refine cl_use (fun K h => c_isRun Ω M nr (nI r) K hr d1 (fun _ _ _ _ => h) (fun q => absurd (hR.1.trans e134) (q r hlt rfl))) trivial ?_
      refine And.intro (fun _ => ?_) (fun a => absurd a (by decide))
      conv => whnf
      refine ⟨fun q M' => q = some (vI (bI (fiM M t nw r))) ∧ Un wSo M M', c_isFit Ω M t r _ nl nh nw nb Ls _ _ _ _ _ (by omega) hX a10 hu.1 hu.2.2 (fun M' a => ⟨rfl, a⟩), trivial, ?_⟩
      rintro q M1 ⟨rfl, hU⟩
      have hK := hK M1 (hU.mono (wC_of mC_So)) (hU.mono sc_So)
      conv => whnf
      refine br_bz (fun c => ?_) (fun c => ?_)
      · rw [c] at hK; exact hK
      · rw [c] at hK; exact hK
    · have hX1 := hX.un p2 wX_tx
      have hu1 := ruI_un hu p2
      have e134' : mI M1 134 0 r = -1 := (p2.I rfl).trans e134
      refine call_go (hJL rfl) (Nat.le_of_ble_eq_true rfl) (go_wp ok_MD_fits [] 250 _ _ _ _ _ _ ?_)
      conv => whnf
      rw [(p2.I (k := 12) (i := 0) (s := 18) rfl).trans a2.2.1]
      refine cl_use (fun K h => c_MD_in Ω _ (nI t) 0 (nI nt - 1) K h) trivial ?_
      rw [inR_y (by omega) ht]
      refine And.intro (fun a => absurd a (by decide)) (fun _ => ?_)
      conv => whnf
      refine cl_use (fun K h => c_MD_isRun Ω M1 nr (nI r) K hr ((p2.I rfl).trans d2) (fun _ _ _ _ => h) (fun q => absurd e134' (q r hlt rfl))) trivial ?_
      refine And.intro (fun _ => ?_) (fun a => absurd a (by decide))
      conv => whnf
      refine ⟨fun q M' => q = some (vI (bI (fiM M1 t nw r))) ∧ Un wX M1 M', c_MD_isFit Ω M1 t r _ nl nh nw nb Ls _ _ _ _ _ (by omega) (by omega) hX1 hu1.2.1 hu1.2.2 (fun M' a b => ⟨rfl, b⟩), trivial, ?_⟩
      rintro q M2 ⟨rfl, hU⟩
      rw [fiM_un p2]
      have hK := hK M2 hU
      conv => whnf
      refine br_bz (fun c => ?_) (fun c => ?_)
      · rw [c] at hK; exact hK
      · rw [c] at hK; exact hK
  · refine turn_pure h (some (vI (-1))) ⟨_, rfl⟩ (fun K hK => ?_) (fun K hK => ?_)
    · refine call_go (hJL rfl) (Nat.le_of_ble_eq_true rfl) (go_wp ok_WH_fits [] 250 _ _ _ _ _ _ ?_)
      conv => whnf
      rcases nI_cases x (n := nt) (by omega) with ⟨t, ht, e⟩ | q
      · subst e
        refine cl_use (fun K h => c_textOf1 Ω M nt t K hn4 a1.2.1 ht h) trivial ?_
        conv => whnf
        refine cl_use (fun K h => c_isRun Ω M nr y K hr d1 (fun r hlt e q => absurd ⟨⟨t, ht, rfl⟩, r, hlt, e, (d3 r hlt).1.symm.trans q⟩ hc) (fun _ => h)) trivial ?_
        exact And.intro (fun a => absurd rfl a) (fun _ => hK)
      · refine cl_use (fun K h => c_textOf0 Ω M nt x K hn4 a1.2.1 q h) trivial ?_
        exact hK
    · refine call_go (hJL rfl) (Nat.le_of_ble_eq_true rfl) (go_wp ok_MD_fits [] 250 _ _ _ _ _ _ ?_)
      conv => whnf
      rw [a2.2.1]
      refine cl_use (fun K h => c_MD_in Ω _ x 0 (nI nt - 1) K h) trivial ?_
      refine br_bz (fun _ => hK) (fun e1 => ?_)
      conv => whnf
      have hx : ∃ t, t < nt ∧ x = nI t := by
        rcases nI_cases x (n := nt) (by omega) with q | q
        · exact q
        · rw [inR_n (by omega) q] at e1; cases e1
      refine cl_use (fun K h => c_MD_isRun Ω M nr y K hr d2 (fun r hlt e q => absurd ⟨hx, r, hlt, e, q⟩ hc) (fun _ => h)) trivial ?_
      exact And.intro (fun a => absurd rfl a) (fun _ => hK)
/-- a void stands behind -/
def voS (f : Nat → Int32) (r : Nat) : Nat → Nat → Bool
  | 0, _ => false
  | m + 1, k => if f k = nI r then true else voS f r m (k + 1)
/-- the run by which a text is out -/
def ouS (f : Nat → Int32) (fit : Nat → Bool) (n : Nat) : Nat → Nat → Option Nat
  | 0, _ => none
  | m + 1, r => if f r = -1 ∧ voS f r (n - (r + 1)) (r + 1) = false ∧ fit r = false then some r else ouS f fit n m (r + 1)
theorem c_isVoid (Ω : Om) (M : Mem) (r n : Nat) (f : Nat → Int32) (K : Ka) (hn : n ≤ 60) (hr : r < n) (hf : ∀ j, j < n → mI M 30 0 j = f j) (h : K (some (vI (bI (voS f r (n - (r + 1)) (r + 1))))) M) : CallS Ω true m_Runs_isVoid [vR (some (5, 0)), vI (nI r), vI (nI n)] M K := by
  have lp : ∀ (m k : Nat), k + m = n → voS f r m k = voS f r (n - (r + 1)) (r + 1) → GoS Ω true m_Runs_isVoid K 4 [some (vR (some (5, 0))), some (vI (nI r)), some (vI (nI n)), some (vI (nI k))] [] M 0 0 := by
    intro m
    induction m with
    | zero =>
      intro k hk he
      refine go_wp ok_Runs_isVoid [] 250 _ _ _ _ _ _ ?_
      refine And.intro (fun _ => ?_) (fun a => ?_)
      · rw [← he] at h; exact ⟨Or.inl rfl, h⟩
      · rw [nI_leI (by omega) (by omega)] at a; omega
    | succ m ih =>
      intro k hk he
      refine go_wp ok_Runs_isVoid [4] 250 _ _ _ _ _ _ ?_
      refine And.intro (fun a => ?_) (fun _ => And.intro (fun a => absurd a (nI_ge (b := 60) (by omega) (by decide))) (fun _ => ?_))
      · rw [nI_leI (by omega) (by omega)] at a; omega
      conv => whnf
      refine And.intro (vp_in_nI (by omega) (by decide)) ?_
      rw [nI_clamp (by omega), hf k (by omega)]
      rw [voS] at he
      refine And.intro (fun z => ?_) (fun z => ?_)
      · conv => whnf
        rw [if_neg z] at he
        have := ih (k + 1) (by omega) he
        rw [← nI_1] at this
        exact this
      · rw [if_pos z] at he
        rw [← he] at h
        exact ⟨Or.inr rfl, h⟩
  refine call_go (hJL rfl) (Nat.le_of_ble_eq_true rfl) (go_wp ok_Runs_isVoid [4] 250 _ _ _ _ _ _ ?_)
  conv => whnf
  rw [nI_1]
  exact lp (n - (r + 1)) (r + 1) (by omega) rfl
set_option maxRecDepth 8000 in
theorem c_MD_isVoid (Ω : Om) (M : Mem) (r n : Nat) (f : Nat → Int32) (K : Ka) (hn : n ≤ 60) (hr : r < n) (hf : ∀ j, j < n → mI M 134 0 j = f j) (h : K (some (vI (bI (voS f r (n - (r + 1)) (r + 1))))) M) : CallS Ω true m_MD_isVoid [vR (some (12, 0)), vI (nI r), vI (nI n)] M K := by
  have lp : ∀ (m k : Nat), k + m = n → voS f r m k = voS f r (n - (r + 1)) (r + 1) → GoS Ω true m_MD_isVoid K 4 [some (vR (some (12, 0))), some (vI (nI r)), some (vI (nI n)), some (vI (nI k))] [] M 0 0 := by
    intro m
    induction m with
    | zero =>
      intro k hk he
      refine go_wp ok_MD_isVoid [] 250 _ _ _ _ _ _ ?_
      refine And.intro (fun _ => ?_) (fun a => ?_)
      · rw [← he] at h; exact ⟨Or.inl rfl, h⟩
      · rw [nI_leI (by omega) (by omega)] at a; omega
    | succ m ih =>
      intro k hk he
      refine go_wp ok_MD_isVoid [4] 250 _ _ _ _ _ _ ?_
      refine And.intro (fun a => ?_) (fun _ => ?_)
      · rw [nI_leI (by omega) (by omega)] at a; omega
      conv => whnf
      refine And.intro (vp_in_nI (by omega) (by decide)) ?_
      rw [nI_clamp (by omega), hf k (by omega)]
      rw [voS] at he
      refine And.intro (fun z => ?_) (fun z => ?_)
      · conv => whnf
        rw [if_neg z] at he
        have := ih (k + 1) (by omega) he
        rw [← nI_1] at this
        exact this
      · rw [if_pos z] at he
        rw [← he] at h
        exact ⟨Or.inr rfl, h⟩
  refine call_go (hJL rfl) (Nat.le_of_ble_eq_true rfl) (go_wp ok_MD_isVoid [4] 250 _ _ _ _ _ _ ?_)
  conv => whnf
  rw [nI_1]
  exact lp (n - (r + 1)) (r + 1) (by omega) rfl
/-- by which a text is out, by what the model holds -/
def ouM (M : Mem) (t nw n : Nat) : Option Nat := ouS (fun r => mI M 134 0 r) (fiM M t nw) n n 0
theorem ouM_un {M M' : Mem} {t nw n : Nat} (hU : Un wX M M') : ouM M' t nw n = ouM M t nw n := by
  unfold ouM
  have e1 : (fun r => mI M' 134 0 r) = fun r => mI M 134 0 r := funext fun r => hU.I rfl
  have e2 : fiM M' t nw = fiM M t nw := funext fun r => fiM_un hU
  rw [e1, e2]
theorem c_outBy (Ω : Om) (M : Mem) (t n nr nl nh nw nb : Nat) (Ls : Nat → List Lt) (K : Ka) (hn : n ≤ nr) (hr : nr ≤ 60) (hX : TxC M t nl nh nw nb Ls) (hS : Sta M) (d3 : ∀ r, r < nr → RnR M r)
    (hK : ∀ M', Un wSo M M' → K (some (vI (match ouM M t nw n with | some r => nI r | none => -2))) M') : CallS Ω true m_Runs_outBy [vR (some (5, 0)), vR (some (7, t)), vI (nI n)] M K := by
  have hf : ∀ j, j < n → mI M 30 0 j = (fun r => mI M 134 0 r) j := fun j hj => (d3 j (by omega)).1
  have lp : ∀ (m r : Nat) (M1 : Mem), r + m = n → Un wSo M M1 → ouS (fun r => mI M 134 0 r) (fiM M t nw) n m r = ouM M t nw n → GoS Ω true m_Runs_outBy K 2 [some (vR (some (5, 0))), some (vR (some (7, t))), some (vI (nI n)), some (vI (nI r))] [] M1 0 0 := by
    intro m
    induction m with
    | zero =>
      intro r M1 hk hU he
      refine go_wp ok_Runs_outBy [] 250 _ _ _ _ _ _ ?_
      refine And.intro (fun _ => ?_) (fun a => ?_)
      · have := hK M1 hU
        rw [← he] at this
        exact this
      · rw [nI_leI (by omega) (by omega)] at a; omega
    | succ m ih =>
      intro r M1 hk hU he
      have hX1 := hU.mono sc_So
      rw [ouS] at he
      have go : ∀ M2 : Mem, Un wSo M M2 → ¬ (mI M 134 0 r = -1 ∧ voS (fun r => mI M 134 0 r) r (n - (r + 1)) (r + 1) = false ∧ fiM M t nw r = false) → GoS Ω true m_Runs_outBy K 43 [some (vR (some (5, 0))), some (vR (some (7, t))), some (vI (nI n)), some (vI (nI r))] [] M2 0 0 := by
        intro M2 hU2 hz
        rw [if_neg hz] at he
        refine go_wp ok_Runs_outBy [2] 250 _ _ _ _ _ _ ?_
        conv => whnf
        have := ih (r + 1) M2 (by omega) hU2 he
        rw [← nI_1] at this
        exact this
      refine go_wp ok_Runs_outBy [43] 250 _ _ _ _ _ _ ?_
      refine And.intro (fun a => ?_) (fun _ => And.intro (fun a => absurd a (nI_ge (b := 60) (by omega) (by decide))) (fun _ => ?_))
      · rw [nI_leI (by omega) (by omega)] at a; omega
      conv => whnf
      refine And.intro (vp_in_nI (by omega) (by decide)) ?_
      rw [nI_clamp (by omega), (hU.I (k := 30) rfl).trans (hf r (by omega))]
      refine And.intro (fun z => go M1 hU (fun q => z q.1)) (fun z => ?_)
      conv => whnf
      refine cl_use (fun K h => c_isVoid Ω M1 r n (fun r => mI M 134 0 r) K (by omega) (by omega) (fun j hj => (hU.I (k := 30) rfl).trans (hf j hj)) h) trivial ?_
      refine br_bn (fun c => go M1 hU (fun q => by rw [q.2.1] at c; cases c)) (fun c => ?_)
      have hu := (d3 r (by omega)).ru z
      have hu1 := ruI_un hu hX1
      conv => whnf
      refine ⟨fun q M' => q = some (vI (bI (fiM M1 t nw r))) ∧ Un wSo M1 M', c_isFit Ω M1 t r _ nl nh nw nb Ls _ _ _ _ _ (by omega) (hX.un hX1 wX_tx) (hS.un hX1 (fun _ => rfl) (fun _ => rfl) (fun _ => rfl) (fun _ => rfl) (fun _ => rfl)) hu1.1 hu1.2.2 (fun M' a => ⟨rfl, a⟩), trivial, ?_⟩
      rintro q M2 ⟨rfl, hU2⟩
      rw [fiM_un hX1]
      conv => whnf
      refine br_bn (fun c2 => go M2 (hU.trans hU2) (fun q => by rw [q.2.2] at c2; cases c2)) (fun c2 => ?_)
      conv => whnf
      rw [if_pos ⟨z, c, c2⟩] at he
      have := hK M2 (hU.trans hU2)
      rw [← he] at this
      exact this
  refine call_go (hJL rfl) (Nat.le_of_ble_eq_true rfl) (go_wp ok_Runs_outBy [2] 250 _ _ _ _ _ _ ?_)
  conv => whnf
  exact lp n 0 M (by omega) Un.rfl rfl
set_option maxRecDepth 8000 in
theorem c_MD_outBy (Ω : Om) (M : Mem) (t n nr nl nh nw nb : Nat) (Ls : Nat → List Lt) (K : Ka) (ht : t < 4) (hn : n ≤ nr) (hr : nr ≤ 60) (hX : TxC M t nl nh nw nb Ls) (d3 : ∀ r, r < nr → RnR M r)
    (hK : ∀ M', Un wM M M' → Un wX M M' → K (some (vI (hI (ouM M t nw n)))) M') : CallS Ω true m_MD_outBy [vR (some (12, 0)), vI (nI t), vI (nI n)] M K := by
  have lp : ∀ (m r : Nat) (M1 : Mem), r + m = n → Un wM M M1 → Un wX M M1 → ouS (fun r => mI M 134 0 r) (fiM M t nw) n m r = ouM M t nw n → GoS Ω true m_MD_outBy K 2 [some (vR (some (12, 0))), some (vI (nI t)), some (vI (nI n)), some (vI (nI r))] [] M1 0 0 := by
    intro m
    induction m with
    | zero =>
      intro r M1 hk hU hX1 he
      refine go_wp ok_MD_outBy [] 250 _ _ _ _ _ _ ?_
      refine And.intro (fun _ => ?_) (fun a => ?_)
      · have := hK M1 hU hX1
        rw [← he] at this
        exact this
      · rw [nI_leI (by omega) (by omega)] at a; omega
    | succ m ih =>
      intro r M1 hk hU hX1 he
      rw [ouS] at he
      have go : ∀ M2 : Mem, Un wM M M2 → Un wX M M2 → ¬ (mI M 134 0 r = -1 ∧ voS (fun r => mI M 134 0 r) r (n - (r + 1)) (r + 1) = false ∧ fiM M t nw r = false) → GoS Ω true m_MD_outBy K 37 [some (vR (some (12, 0))), some (vI (nI t)), some (vI (nI n)), some (vI (nI r))] [] M2 0 0 := by
        intro M2 hU2 hX2 hz
        rw [if_neg hz] at he
        refine go_wp ok_MD_outBy [2] 250 _ _ _ _ _ _ ?_
        conv => whnf
        have := ih (r + 1) M2 (by omega) hU2 hX2 he
        rw [← nI_1] at this
        exact this
      refine go_wp ok_MD_outBy [37] 250 _ _ _ _ _ _ ?_
      refine And.intro (fun a => ?_) (fun _ => ?_)
      · rw [nI_leI (by omega) (by omega)] at a; omega
      conv => whnf
      refine And.intro (vp_in_nI (by omega) (by decide)) ?_
      rw [nI_clamp (by omega), hX1.I (k := 134) rfl]
      refine And.intro (fun z => go M1 hU hX1 (fun q => z q.1)) (fun z => ?_)
      conv => whnf
      refine cl_use (fun K h => c_MD_isVoid Ω M1 r n (fun r => mI M 134 0 r) K (by omega) (by omega) (fun j hj => hX1.I (k := 134) rfl) h) trivial ?_
      refine br_bn (fun c => go M1 hU hX1 (fun q => by rw [q.2.1] at c; cases c)) (fun c => ?_)
      have hu := (d3 r (by omega)).ru z
      have hu1 := ruI_un hu hX1
      conv => whnf
      refine ⟨fun q M' => q = some (vI (bI (fiM M1 t nw r))) ∧ Un wM M1 M' ∧ Un wX M1 M', c_MD_isFit Ω M1 t r _ nl nh nw nb Ls _ _ _ _ _ ht (by omega) (hX.un hX1 wX_tx) hu1.2.1 hu1.2.2 (fun M' a b => ⟨rfl, a, b⟩), trivial, ?_⟩
      rintro q M2 ⟨rfl, hU2, hX2⟩
      rw [fiM_un hX1]
      conv => whnf
      refine br_bn (fun c2 => go M2 (hU.trans hU2) (hX1.trans hX2) (fun q => by rw [q.2.2] at c2; cases c2)) (fun c2 => ?_)
      conv => whnf
      rw [if_pos ⟨z, c, c2⟩] at he
      have := hK M2 (hU.trans hU2) (hX1.trans hX2)
      rw [← he] at this
      exact this
  refine call_go (hJL rfl) (Nat.le_of_ble_eq_true rfl) (go_wp ok_MD_outBy [2] 250 _ _ _ _ _ _ ?_)
  conv => whnf
  exact lp n 0 M (by omega) Un.rfl Un.rfl rfl
