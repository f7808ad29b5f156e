/-! THE MODEL'S ROUND -/
def szf (f : Nat) : Nat := cond (Nat.beq f 77) 8 (cond (Nat.beq f 78) 64 (cond (Nat.beq f 79) 64 (cond (Nat.beq f 82) 4 (cond (Nat.beq f 83) 4 (cond (Nat.ble 86 f && Nat.ble f 90) 4 (cond (Nat.beq f 91) 16 (cond (Nat.ble 92 f && Nat.ble f 96) 40 (cond (Nat.beq f 99) 8 (cond (Nat.beq f 100) 8 (cond (Nat.ble 101 f && Nat.ble f 106) 200 (cond (Nat.ble 107 f && Nat.ble f 108) 520 1)))))))))))
/-- a page of the model -/
def pg (M : Mem) (p : Nat) : Tx := fun f a => cond (Nat.ble 74 f && Nat.ble f 108) (mI M f 0 (szf f * p + a)) 0
theorem pg_un {w : Nat → Nat → Nat → Bool} {M M' : Mem} (hU : Un w M M') (h : ∀ f s, 74 ≤ f → f ≤ 108 → w f 0 s = false) (p : Nat) : pg M' p = pg M p := by
  funext f a
  unfold pg
  by_cases c : 74 ≤ f ∧ f ≤ 108
  · rw [hU.I (h f _ c.1 c.2)]
  · have e : (Nat.ble 74 f && Nat.ble f 108) = false := by simp [nl_d]; omega
    rw [e]; rfl
theorem wRm_pg : ∀ (f s : Nat), 74 ≤ f → f ≤ 108 → (Nat.ble 113 f && Nat.ble f 117) = false := fun f s h1 h2 => by simp [nl_d]; omega
theorem od_ne (x : Int32) : ¬ 2 * x.toInt64 + 1 = 0 := by
  intro e
  have h1 := Int32.toInt_lt x
  have h2 := Int32.le_toInt x
  have e2 := congrArg Int64.toInt e
  have e3 : ((2 : Int64) * x.toInt64).toInt = 2 * x.toInt := by rw [J_mul (by rw [I_l, show (2 : Int64).toInt = 2 from rfl]; omega), I_l]; rfl
  rw [J_add (by rw [e3, show (1 : Int64).toInt = 1 from rfl]; omega), e3, show (1 : Int64).toInt = 1 from rfl, show (0 : Int64).toInt = 0 from rfl] at e2
  omega
theorem c_edgeOf (Ω : Om) (M : Mem) (n k : Nat) (g : Nat → Int64) (K : Ka) (hn : n ≤ 10) (hk : k ≤ n) (hs : mI M 12 0 72 = nI n) (hG : ∀ i, i < n → mJ M 113 0 i = g i) (h : K (some (vJ (eg g n k))) M) : CallS Ω true m_MD_edgeOf [vR (some (12, 0)), vI (nI k)] M K := by
  refine call_go (hJL rfl) (Nat.le_of_ble_eq_true rfl) (go_wp ok_MD_edgeOf [] 250 _ _ _ _ _ _ ?_)
  refine And.intro (fun a => ?_) (fun a => ?_)
  · rw [hs, nI_leI (by omega) (by omega)] at a
    conv => whnf
    refine And.intro (fun b => ?_) (fun b => ?_)
    · rw [show (0 : Int32) = nI 0 from rfl, nI_leI (by omega) (by omega)] at b
      conv => whnf
      rw [eg, if_neg (by omega), if_neg (by omega)] at h
      exact h
    · rw [show (0 : Int32) = nI 0 from rfl, nI_leI (by omega) (by omega)] at b
      conv => whnf
      rw [show (1 : Int32) = nI 1 from rfl, pk_sub (by omega)]
      refine And.intro (vp_in_nI (by omega) (by decide)) ?_
      rw [nI_clamp (by omega), hG (k - 1) (by omega)]
      rw [eg, if_neg (by omega), if_pos (by omega)] at h
      exact h
  · rw [hs, nI_leI (by omega) (by omega)] at a
    conv => whnf
    refine And.intro (vp_in_nI (by omega) (by decide)) ?_
    rw [nI_clamp (by omega), hG k (by omega)]
    conv => whnf
    refine And.intro (fun b => ?_) (fun b => ?_)
    · rw [show (0 : Int32) = nI 0 from rfl, nI_leI (by omega) (by omega)] at b
      conv => whnf
      rw [eg, if_pos (by omega), if_neg (by omega)] at h
      exact h
    · rw [show (0 : Int32) = nI 0 from rfl, nI_leI (by omega) (by omega)] at b
      conv => whnf
      rw [show (1 : Int32) = nI 1 from rfl, pk_sub (by omega)]
      refine And.intro (vp_in_nI (by omega) (by decide)) ?_
      rw [nI_clamp (by omega), hG (k - 1) (by omega)]
      rw [eg, if_pos (by omega), if_pos (by omega)] at h
      exact h
theorem c_leaderEdge (Ω : Om) (M : Mem) (m l k : Nat) (g : Nat → Int64) (K : Ka) (hn : m ≤ 10) (hl : l < 20) (hk : k ≤ m) (hs : mI M 12 0 76 = nI l) (hG : ∀ i, i < m → mJ M 121 0 (10 * l + i) = g i) (h : K (some (vJ (eg g m k))) M) : CallS Ω true m_MD_leaderEdge [vR (some (12, 0)), vI (nI k), vI (nI m)] M K := by
  refine call_go (hJL rfl) (Nat.le_of_ble_eq_true rfl) (go_wp ok_MD_leaderEdge [] 250 _ _ _ _ _ _ ?_)
  refine And.intro (fun a => ?_) (fun a => ?_)
  · rw [nI_leI (by omega) (by omega)] at a
    conv => whnf
    refine And.intro (fun b => ?_) (fun b => ?_)
    · rw [show (0 : Int32) = nI 0 from rfl, nI_leI (by omega) (by omega)] at b
      conv => whnf
      rw [eg, if_neg (by omega), if_neg (by omega)] at h
      exact h
    · rw [show (0 : Int32) = nI 0 from rfl, nI_leI (by omega) (by omega)] at b
      conv => whnf
      rw [hs, show (10 : Int32) = nI 10 from rfl, pk_mul, nI_add, show (1 : Int32) = nI 1 from rfl, pk_sub (by omega)]
      refine And.intro (vp_in_nI (by omega) (by decide)) ?_
      rw [nI_clamp (by omega), show 10 * l + k - 1 = 10 * l + (k - 1) by omega, hG (k - 1) (by omega)]
      rw [eg, if_neg (by omega), if_pos (by omega)] at h
      exact h
  · rw [nI_leI (by omega) (by omega)] at a
    conv => whnf
    rw [hs, show (10 : Int32) = nI 10 from rfl, pk_mul, nI_add]
    refine And.intro (vp_in_nI (by omega) (by decide)) ?_
    rw [nI_clamp (by omega), hG k (by omega)]
    conv => whnf
    refine And.intro (fun b => ?_) (fun b => ?_)
    · rw [show (0 : Int32) = nI 0 from rfl, nI_leI (by omega) (by omega)] at b
      conv => whnf
      rw [eg, if_pos (by omega), if_neg (by omega)] at h
      exact h
    · rw [show (0 : Int32) = nI 0 from rfl, nI_leI (by omega) (by omega)] at b
      conv => whnf
      rw [hs, show (10 : Int32) = nI 10 from rfl, pk_mul, nI_add, show (1 : Int32) = nI 1 from rfl, pk_sub (by omega)]
      refine And.intro (vp_in_nI (by omega) (by decide)) ?_
      rw [nI_clamp (by omega), show 10 * l + k - 1 = 10 * l + (k - 1) by omega, hG (k - 1) (by omega)]
      rw [eg, if_pos (by omega), if_pos (by omega)] at h
      exact h
/-- what a leader's edges turn down -/
def aHd (lg : Nat → Int64) (m : Nat) (off : Int32) (i : Nat) : Nat → Int64 := sm (fun k => eg lg m k * 14549535 / (2 * (nI i - nI k - off).toInt64 + 1))
theorem aHd_s {lg : Nat → Int64} {m i k : Nat} {off : Int32} : aHd lg m off i (k + 1) = aHd lg m off i k + eg lg m k * 14549535 / (2 * (nI i - nI k - off).toInt64 + 1) := rfl
/-- the model set out for a wing -/
def ME (M : Mem) (p : Nat) (E : Ev) : Prop := (p < 4 ∧ eW E < 4 ∧ eT E = pg M p) ∧ mI M 12 0 71 = nI (4 * p + eW E) ∧ mI M 12 0 72 = nI (eN E) ∧ mI M 12 0 73 = eV E ∧ mI M 12 0 75 = eH E ∧
  (∀ i, i < eN E → eB E i = mI M 12 0 74 + mI M 118 0 i + (if eT E 96 (10 * eW E + i) = -1 then 0 else if mI M 12 0 78 = 0 then 0 else pg M p 83 (eT E 96 (10 * eW E + i)).toNatClampNeg) + (if mI M 12 0 79 = 0 then 0 else mI M 112 0 i)) ∧
  ((mI M 12 0 76 = -1 ∧ ∀ i, i < eN E → eA E i = 0) ∨ ∃ l m, l < 20 ∧ mI M 12 0 76 = nI l ∧ mI M 86 0 l = nI m ∧ m ≤ 10 ∧ ∀ i, i < eN E → eA E i = aHd (fun k => mJ M 121 0 (10 * l + k)) m (mI M 12 0 77) i (m + 1))
def wRm (k _i _s : Nat) : Bool := Nat.ble 113 k && Nat.ble k 117
theorem ME.un {M M' : Mem} {p : Nat} {E : Ev} (h : ME M p E) (hU : Un wRm M M') : ME M' p E := by
  obtain ⟨⟨a0, a1, a2⟩, a3, a4, a5, a6, a7, a8⟩ := h
  have epg : pg M' p = pg M p := pg_un hU wRm_pg p
  have e12 : ∀ s, mI M' 12 0 s = mI M 12 0 s := fun s => hU.I rfl
  refine ⟨⟨a0, a1, ?_⟩, (e12 _).trans a3, (e12 _).trans a4, (e12 _).trans a5, (e12 _).trans a6, fun i hi => ?_, ?_⟩
  · rw [a2, epg]
  · rw [a7 i hi, e12, e12, e12, hU.I (k := 118) rfl, hU.I (k := 112) rfl, epg]
  · rw [e12, e12]
    rcases a8 with h | ⟨l, m, b1, b2, b3, b4, b5⟩
    · exact Or.inl h
    · refine Or.inr ⟨l, m, b1, b2, (hU.I rfl).trans b3, b4, fun i hi => ?_⟩
      rw [b5 i hi]
      congr 1
      funext k
      exact (hU.J rfl).symm
theorem pgI {M : Mem} {p f a x : Nat} (hf : (Nat.ble 74 f && Nat.ble f 108) = true) (hx : x = szf f * p + a) : mI M f 0 x = pg M p f a := by
  unfold pg; rw [hf, hx]; rfl
theorem c_downOf (Ω : Om) (M : Mem) (p i : Nat) (E : Ev) (g : Nat → Int64) (K : Ka) (hE : ME M p E) (hO : EvOK E) (hi : i < eN E) (hG : ∀ i, i < eN E → mJ M 113 0 i = g i) (h : K (some (vJ (dnS E g i))) M) : CallS Ω true m_MD_downOf [vR (some (12, 0)), vI (nI i)] M K := by
  obtain ⟨hWg, hh, hh21, hH⟩ := hO
  obtain ⟨hn1, hn2, hn3, hst⟩ := hWg.n
  have hn3 : eN E ≤ 10 := hn3
  obtain ⟨⟨hp, hw4, hT⟩, a1, a2, a3, a4, a5, a6⟩ := hE
  have hY := eY_ne hWg
  refine call_go (hJL rfl) (Nat.le_of_ble_eq_true rfl) (go_wp ok_MD_downOf [24] 250 _ _ _ _ _ _ ?_)
  conv => whnf
  rw [a1]
  refine And.intro (vp_in_nI (by omega) (by decide)) ?_
  rw [nI_clamp (by omega), show mI M 87 0 (4 * p + eW E) = eT E 87 (eW E) from by rw [hT]; rfl]
  conv => whnf
  suffices q : ∀ r9 r10 : Option Vl, GoS Ω true m_MD_downOf K 24 [some (vR (some (12, 0))), some (vI (nI i)), some (vJ (eY E)), none, some (vJ (dnO g (eN E) i 0)), none, some (vJ (if 0 < eH E then dnI g (eN E) (eH E) i 0 else 0)), none, some (vI (nI 0)), r9, r10, none] [] M 0 0 by
    have := q none none
    rw [show (if 0 < eH E then dnI g (eN E) (eH E) i 0 else 0) = 0 from by split <;> rfl] at this
    exact this
  refine upN (eN E + 1) (fun k => ∀ r9 r10 : Option Vl, GoS Ω true m_MD_downOf K 24 [some (vR (some (12, 0))), some (vI (nI i)), some (vJ (eY E)), none, some (vJ (dnO g (eN E) i k)), none, some (vJ (if 0 < eH E then dnI g (eN E) (eH E) i k else 0)), none, some (vI (nI k)), r9, r10, none] [] M 0 0) ?_ ?_ 0 (Nat.zero_le _)
  · intro k hk hN r9 r10
    refine go_wp ok_MD_downOf [24] 250 _ _ _ _ _ _ ?_
    refine And.intro (fun b => ?_) (fun _ => ?_)
    · rw [a2, nI_ltI (by omega) (by omega)] at b; omega
    conv => whnf
    refine cl_use (fun K h => c_edgeOf Ω M (eN E) k g K hn3 (by omega) a2 hG h) trivial ?_
    conv => whnf
    refine And.intro (dd_ne (show i < 10 by omega) (show k < 11 by omega)) ?_
    conv => whnf
    rw [a4]
    refine And.intro (fun z => ?_) (fun z => ?_)
    · conv => whnf
      have := hN (some (vJ (dd i k))) none
      rw [if_neg (Int32.not_lt.mpr z), dnO_s, ← nI_1] at this
      rw [if_neg (Int32.not_lt.mpr z)]
      exact this
    · have z : 0 < eH E := Int32.not_le.mp z
      conv => whnf
      refine cl_use (fun K h => c_edgeOf Ω M (eN E) k g K hn3 (by omega) a2 hG h) trivial ?_
      conv => whnf
      rw [a4]
      refine And.intro (by have := ddH_at (show i < 10 by omega) (show k < 11 by omega) hh21; rw [← hH] at this; exact this) ?_
      conv => whnf
      have := hN (some (vJ (dd i k))) none
      rw [if_pos z, dnO_s, dnI_s, ← nI_1] at this
      rw [if_pos z]
      exact this
  · intro r9 r10
    refine go_wp ok_MD_downOf [189, 142] 250 _ _ _ _ _ _ ?_
    refine And.intro (fun _ => ?_) (fun b => ?_)
    · conv => whnf
      have fin : ∀ r10 r11 : Option Vl, GoS Ω true m_MD_downOf K 189 [some (vR (some (12, 0))), some (vI (nI i)), some (vJ (eY E)), none, some (vJ (dnO g (eN E) i (eN E + 1))), none, some (vJ (if 0 < eH E then dnI g (eN E) (eH E) i (eN E + 1) else 0)), none, some (vJ (eA E i)), none, r10, r11] [] M 0 0 := by
        intro r10 r11
        refine go_wp ok_MD_downOf [] 250 _ _ _ _ _ _ ?_
        refine And.intro hY ?_
        refine And.intro hY ?_
        refine And.intro hY ?_
        exact h
      rcases a6 with ⟨b1, b2⟩ | ⟨l, m, b0, b1, b2, b3, b4⟩
      · rw [b1]
        refine And.intro (fun _ => ?_) (fun b => absurd rfl b)
        conv => whnf
        have := fin r10 none
        rw [b2 i hi] at this
        exact this
      · rw [b1]
        refine And.intro (fun b => absurd b (nI_nm1 (by omega))) (fun _ => ?_)
        conv => whnf
        rw [b1]
        refine And.intro (vp_in_nI (by omega) (by decide)) ?_
        rw [nI_clamp (by omega), b2]
        conv => whnf
        refine upN (m + 1) (fun k => GoS Ω true m_MD_downOf K 142 [some (vR (some (12, 0))), some (vI (nI i)), some (vJ (eY E)), none, some (vJ (dnO g (eN E) i (eN E + 1))), none, some (vJ (if 0 < eH E then dnI g (eN E) (eH E) i (eN E + 1) else 0)), none, some (vJ (aHd (fun k => mJ M 121 0 (10 * l + k)) m (mI M 12 0 77) i k)), none, some (vI (nI m)), some (vI (nI k))] [] M 0 0) ?_ ?_ 0 (Nat.zero_le _)
        · intro k hk hN
          refine go_wp ok_MD_downOf [142] 250 _ _ _ _ _ _ ?_
          refine And.intro (fun b => ?_) (fun _ => ?_)
          · rw [nI_ltI (by omega) (by omega)] at b; omega
          conv => whnf
          refine cl_use (fun K h => c_leaderEdge Ω M m l k (fun k => mJ M 121 0 (10 * l + k)) K b3 b0 (by omega) b1 (fun _ _ => rfl) h) trivial ?_
          conv => whnf
          refine And.intro (od_ne _) ?_
          conv => whnf
          rw [aHd_s, ← nI_1] at hN
          exact hN
        · refine go_wp ok_MD_downOf [189] 250 _ _ _ _ _ _ ?_
          refine And.intro (fun _ => ?_) (fun b => ?_)
          · conv => whnf
            have := fin (some (vI (nI m))) (some (vI (nI (m + 1))))
            rw [b4 i hi] at this
            exact this
          · rw [nI_ltI (by omega) (by omega)] at b; omega
    · rw [a2, nI_ltI (by omega) (by omega)] at b; omega
theorem c_bendOf (Ω : Om) (M : Mem) (p i : Nat) (E : Ev) (g : Nat → Int64) (K : Ka) (hE : ME M p E) (hO : EvOK E) (hi : i < eN E) (hG : ∀ i, i < eN E → mJ M 113 0 i = g i) (h : K (some (vJ (bnS E g i))) M) : CallS Ω true m_MD_bendOf [vR (some (12, 0)), vI (nI i)] M K := by
  obtain ⟨hWg, -⟩ := hO
  obtain ⟨hn1, hn2, hn3, hst⟩ := hWg.n
  have hn3 : eN E ≤ 10 := hn3
  obtain ⟨⟨hp, hw4, hT⟩, a1, a2, a3, a4, a5, a6⟩ := hE
  have e88 : mI M 88 0 (4 * p + eW E) = eT E 88 (eW E) := by rw [hT]; rfl
  refine call_go (hJL rfl) (Nat.le_of_ble_eq_true rfl) (go_wp ok_MD_bendOf [19] 250 _ _ _ _ _ _ ?_)
  conv => whnf
  rw [a1]
  refine And.intro (vp_in_nI (by omega) (by decide)) ?_
  rw [nI_clamp (by omega), e88]
  refine And.intro (fun z => ?_) (fun z => ?_)
  · conv => whnf
    refine upN (i + 1) (fun j => ∀ r5 : Option Vl, GoS Ω true m_MD_bendOf K 19 [some (vR (some (12, 0))), some (vI (nI i)), some (vJ (sm (fun j => sm g (eN E) - sm g j) j)), none, some (vI (nI j)), r5] [] M 0 0) ?_ ?_ 0 (Nat.zero_le _) none
    · intro j hj hN r5
      refine go_wp ok_MD_bendOf [29] 250 _ _ _ _ _ _ ?_
      refine And.intro (fun b => ?_) (fun _ => ?_)
      · rw [nI_ltI (by omega) (by omega)] at b; omega
      conv => whnf
      have q : ∀ m, m ≤ eN E → j ≤ m → GoS Ω true m_MD_bendOf K 29 [some (vR (some (12, 0))), some (vI (nI i)), some (vJ (sm (fun j => sm g (eN E) - sm g j) j + (sm g m - sm g j))), none, some (vI (nI j)), some (vI (nI m))] [] M 0 0 := by
        refine upN (eN E) (fun m => j ≤ m → GoS Ω true m_MD_bendOf K 29 [some (vR (some (12, 0))), some (vI (nI i)), some (vJ (sm (fun j => sm g (eN E) - sm g j) j + (sm g m - sm g j))), none, some (vI (nI j)), some (vI (nI m))] [] M 0 0) ?_ ?_
        · intro m hm hN hjm
          refine go_wp ok_MD_bendOf [29] 250 _ _ _ _ _ _ ?_
          refine And.intro (fun b => ?_) (fun _ => ?_)
          · rw [a2, nI_leI (by omega) (by omega)] at b; omega
          conv => whnf
          refine And.intro (vp_in_nI (by omega) (by decide)) ?_
          rw [nI_clamp (by omega), hG m hm]
          have := hN (by omega)
          rw [sm, show sm (fun j => sm g (eN E) - sm g j) j + (sm g m + g m - sm g j) = sm (fun j => sm g (eN E) - sm g j) j + (sm g m - sm g j) + g m from by grind, ← nI_1] at this
          exact this
        · intro hjm
          refine go_wp ok_MD_bendOf [19] 250 _ _ _ _ _ _ ?_
          refine And.intro (fun _ => ?_) (fun b => ?_)
          · conv => whnf
            have := hN (some (vI (nI (eN E))))
            rw [← nI_1] at this
            exact this
          · rw [a2, nI_leI (by omega) (by omega)] at b; omega
      have := q j (by omega) (Nat.le_refl _)
      rw [show sm (fun j => sm g (eN E) - sm g j) j + (sm g j - sm g j) = sm (fun j => sm g (eN E) - sm g j) j from by grind] at this
      exact this
    · intro r5
      refine go_wp ok_MD_bendOf [] 250 _ _ _ _ _ _ ?_
      refine And.intro (fun _ => ?_) (fun b => ?_)
      · conv => whnf
        rw [a1]
        refine And.intro (vp_in_nI (by omega) (by decide)) ?_
        rw [nI_clamp (by omega), e88]
        conv => whnf
        rw [Int64.mul_comm (eT E 88 (eW E)).toInt64 1000]
        refine And.intro (fun q => z ((st_0 hWg.2.2.1).mp q)) ?_
        conv => whnf
        rw [a3]
        rw [bnS, if_neg z, Int64.mul_comm (eT E 88 (eW E)).toInt64 1000] at h
        exact h
      · rw [nI_ltI (by omega) (by omega)] at b; omega
  · conv => whnf
    rw [bnS, if_pos z] at h
    exact h
