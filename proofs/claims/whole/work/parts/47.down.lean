/-! THE CLASS'S ROUND, I: down -/
theorem upN (N : Nat) (G : Nat → Prop) (hb : ∀ j, j < N → G (j + 1) → G j) (he : G N) : ∀ j, j ≤ N → G j := by
  intro j hj
  obtain ⟨d, hd⟩ : ∃ d, d = N - j := ⟨_, rfl⟩
  induction d generalizing j with
  | zero =>
    have e : j = N := by omega
    subst e
    exact he
  | succ d ih => exact hb j (by omega) (ih (j + 1) (by omega) (by omega))
theorem dq_pos {e d s : Int64} (he : -20000 ≤ e.toInt ∧ e.toInt ≤ 20000) (hs : 0 < s.toInt ∧ s.toInt ≤ 14549535) (h : d.toInt * s.toInt = 14549535) : e * 14549535 / d = e * s := by
  have e1 : (e * 14549535).toInt = e.toInt * 14549535 := J_mul (by rw [show (14549535 : Int64).toInt = 14549535 from rfl]; omega)
  have hd : d.toInt ≠ 0 := fun q => by rw [q, Int.zero_mul] at h; omega
  have b1 : -(20000 * 14549535) ≤ e.toInt * s.toInt ∧ e.toInt * s.toInt ≤ 20000 * 14549535 := by
    generalize e.toInt = a at he
    generalize s.toInt = b at hs
    have q1 : a * b ≤ 20000 * b := Int.mul_le_mul_of_nonneg_right he.2 (by omega)
    have q2 : -20000 * b ≤ a * b := Int.mul_le_mul_of_nonneg_right he.1 (by omega)
    omega
  apply Int64.toInt_inj.mp
  rw [J_div (by rw [e1]; omega), e1, J_mul (by omega), ← h, Int.mul_comm d.toInt, ← Int.mul_assoc, Int.mul_tdiv_cancel _ hd]
theorem dq_neg {e d s : Int64} (he : -20000 ≤ e.toInt ∧ e.toInt ≤ 20000) (hs : 0 < s.toInt ∧ s.toInt ≤ 14549535) (h : d.toInt * s.toInt = -14549535) : e * 14549535 / d = -e * s := by
  have e1 : (e * 14549535).toInt = e.toInt * 14549535 := J_mul (by rw [show (14549535 : Int64).toInt = 14549535 from rfl]; omega)
  have hd : d.toInt ≠ 0 := fun q => by rw [q, Int.zero_mul] at h; omega
  have e2 : (-e).toInt = -e.toInt := J_neg (by omega)
  have b1 : -(20000 * 14549535) ≤ -e.toInt * s.toInt ∧ -e.toInt * s.toInt ≤ 20000 * 14549535 := by
    generalize e.toInt = a at he
    generalize s.toInt = b at hs
    have q1 : -a * b ≤ 20000 * b := Int.mul_le_mul_of_nonneg_right (by omega) (by omega)
    have q2 : -20000 * b ≤ -a * b := Int.mul_le_mul_of_nonneg_right (by omega) (by omega)
    omega
  apply Int64.toInt_inj.mp
  rw [J_div (by rw [e1]; omega), e1, J_mul (by rw [e2]; omega), e2, show e.toInt * 14549535 = -e.toInt * -14549535 by omega, ← h, Int.mul_comm d.toInt, ← Int.mul_assoc, Int.mul_tdiv_cancel _ hd]
def ddT : Bool := (List.range 10).all fun i => (List.range 11).all fun k => decide (if k ≤ i then (dd i k).toInt * (shT (i - k)).toInt = 14549535 ∧ 0 < (shT (i - k)).toInt ∧ (shT (i - k)).toInt ≤ 14549535 else (dd i k).toInt * (shT (k - i - 1)).toInt = -14549535 ∧ 0 < (shT (k - i - 1)).toInt ∧ (shT (k - i - 1)).toInt ≤ 14549535)
theorem ddT_ok : ddT = true := by decide +kernel
theorem dd_at {i k : Nat} (hi : i < 10) (hk : k < 11) : if k ≤ i then (dd i k).toInt * (shT (i - k)).toInt = 14549535 ∧ 0 < (shT (i - k)).toInt ∧ (shT (i - k)).toInt ≤ 14549535 else (dd i k).toInt * (shT (k - i - 1)).toInt = -14549535 ∧ 0 < (shT (k - i - 1)).toInt ∧ (shT (k - i - 1)).toInt ≤ 14549535 :=
  of_decide_eq_true (List.all_eq_true.mp (List.all_eq_true.mp ddT_ok i (List.mem_range.mpr hi)) k (List.mem_range.mpr hk))
theorem dd_ne {i k : Nat} (hi : i < 10) (hk : k < 11) : ¬ dd i k = 0 := by
  intro e
  have h := dd_at hi hk
  rw [e] at h
  split at h
  · have := h.1; simp at this
  · have := h.1; simp at this
theorem eg_bd {g : Nat → Int64} {n k : Nat} (hg : GB n g) (hk : k ≤ n) : -20000 ≤ (eg g n k).toInt ∧ (eg g n k).toInt ≤ 20000 := by
  have a1 : -8991 ≤ (if k < n then g k else 0).toInt ∧ (if k < n then g k else 0).toInt ≤ 8991 := by
    by_cases h : k < n
    · rw [if_pos h]; exact hg k h
    · rw [if_neg h]; decide
  have a2 : -8991 ≤ (if 0 < k then g (k - 1) else 0).toInt ∧ (if 0 < k then g (k - 1) else 0).toInt ≤ 8991 := by
    by_cases h : 0 < k
    · rw [if_pos h]; exact hg (k - 1) (by omega)
    · rw [if_neg h]; decide
  rw [eg, J_sub (by omega)]
  omega
theorem sh_le {g : Nat → Int64} {n i k : Nat} (hg : GB n g) (hn : n ≤ 10) (hi : i < 10) (hk : k ≤ n) (h : k ≤ i) : eg g n k * 14549535 / dd i k = eg g n k * (shT (i - k)).toInt64 := by
  have q := dd_at hi (show k < 11 by omega)
  rw [if_pos h] at q
  exact dq_pos (eg_bd hg hk) (by rw [I_l]; exact q.2) (by rw [I_l]; exact q.1)
theorem sh_gt {g : Nat → Int64} {n i k : Nat} (hg : GB n g) (hn : n ≤ 10) (hi : i < 10) (hk : k ≤ n) (h : ¬ k ≤ i) : eg g n k * 14549535 / dd i k = -eg g n k * (shT (k - i - 1)).toInt64 := by
  have q := dd_at hi (show k < 11 by omega)
  rw [if_neg h] at q
  exact dq_neg (eg_bd hg hk) (by rw [I_l]; exact q.2) (by rw [I_l]; exact q.1)
theorem dnO_s {g : Nat → Int64} {n i k : Nat} : dnO g n i (k + 1) = dnO g n i k + eg g n k * 14549535 / dd i k := rfl
def wDn (k i _s : Nat) : Bool := (Nat.beq k 24 && Nat.beq i 0) || Nat.beq k 41
/-- what is behind the k-th edge -/
def bfS (g : Nat → Int64) (n j : Nat) : Int64 := if j = 0 then 0 else if j - 1 < n then g (j - 1) else 0
theorem bf_eg {g : Nat → Int64} {n j : Nat} (h : j ≤ n) : eg g n j = (if j < n then g j else 0) - bfS g n j := by
  rw [eg, bfS]
  by_cases e : j = 0
  · subst e; rfl
  · rw [if_neg e, if_pos (show 0 < j by omega), if_pos (show j - 1 < n by omega)]
theorem bf_s {g : Nat → Int64} {n j : Nat} : bfS g n (j + 1) = if j < n then g j else 0 := by
  rw [bfS, if_neg (by omega)]; rfl
theorem c_tellDown (Ω : Om) (M : Mem) (n : Nat) (g ws : Nat → Int64) (by_ : Int64) (K : Ka) (hn : n ≤ 10) (hg : GB n g) (hs : mI M 2 0 4 = nI n) (hG : ∀ i, i < n → mJ M 23 0 i = g i) (hW : ∀ i, i < n → mJ M 40 0 i = ws i) (hS : ∀ j, j < 10 → mI M 142 0 j = shT j)
    (hK : ∀ M', Un wDn M M' → (∀ k, k ≤ n → mJ M' 41 0 k = eg g n k) → (∀ i, i < n → mJ M' 24 0 i = ovS (dnO g n i (n + 1)) by_ + ws i) → K none M') : CallS Ω true m_Solver_tellDown [vR (some (6, 0)), vJ by_] M K := by
  -- the outer loop over strips
  have l2 : ∀ (b : Int64) (M1 : Mem), Un wDn M M1 → (∀ k, k ≤ n → mJ M1 41 0 k = eg g n k) → ∀ (r6 r7 r8 : Option Vl), GoS Ω true m_Solver_tellDown K 68 [some (vR (some (6, 0))), some (vJ by_), none, some (vJ b), none, some (vI (nI 0)), r6, r7, r8] [] M1 0 0 := by
    intro b M1 hU1 hE1
    have q := loopN n (fun i M2 => Un wDn M M2 ∧ (∀ k, k ≤ n → mJ M2 41 0 k = eg g n k) ∧ ∀ i', i' < i → mJ M2 24 0 i' = ovS (dnO g n i' (n + 1)) by_ + ws i')
      (fun i M2 => ∀ (r6 r7 r8 : Option Vl), GoS Ω true m_Solver_tellDown K 68 [some (vR (some (6, 0))), some (vJ by_), none, some (vJ b), none, some (vI (nI i)), r6, r7, r8] [] M2 0 0) ?_ ?_ 0 M1 (Nat.zero_le _) ⟨hU1, hE1, fun i' h => absurd h (Nat.not_lt_zero _)⟩
    · exact q
    · rintro i M2 hi ⟨hU, hE, hD⟩ hN r6 r7 r8
      have hs2 : mI M2 2 0 4 = nI n := (hU.I rfl).trans hs
      refine go_wp ok_Solver_tellDown [86] 250 _ _ _ _ _ _ ?_
      refine And.intro (fun a => ?_) (fun _ => ?_)
      · rw [hs2, nI_leI (by omega) (by omega)] at a; omega
      conv => whnf
      refine upN (n + 1) (fun k => GoS Ω true m_Solver_tellDown K 86 [some (vR (some (6, 0))), some (vJ by_), none, some (vJ b), none, some (vI (nI i)), some (vJ (dnO g n i k)), none, some (vI (nI k))] [] M2 0 0) ?_ ?_ 0 (Nat.zero_le _)
      · intro k hk hN
        refine go_wp ok_Solver_tellDown [86] 250 _ _ _ _ _ _ ?_
        refine And.intro (fun a => ?_) (fun _ => ?_)
        · rw [hs2, nI_ltI (by omega) (by omega)] at a; omega
        conv => whnf
        refine And.intro (fun a => ?_) (fun a => ?_)
        · rw [nI_ltI (by omega) (by omega)] at a
          conv => whnf
          refine And.intro (vp_in_nI (by omega) (by decide)) ?_
          conv => whnf
          rw [pk_sub (by omega), show (1 : Int32) = nI 1 from rfl, pk_sub (by omega)]
          refine And.intro (vp_in_nI (by omega) (by decide)) ?_
          rw [nI_clamp (by omega), nI_clamp (by omega), hE k (by omega), (hU.I rfl).trans (hS (k - i - 1) (by omega))]
          conv => whnf
          rw [dnO_s, sh_gt hg hn (show i < 10 by omega) (show k ≤ n by omega) (by omega), ← nI_1] at hN
          exact hN
        · rw [nI_ltI (by omega) (by omega)] at a
          conv => whnf
          refine And.intro (vp_in_nI (by omega) (by decide)) ?_
          conv => whnf
          rw [pk_sub (by omega)]
          refine And.intro (vp_in_nI (by omega) (by decide)) ?_
          rw [nI_clamp (by omega), nI_clamp (by omega), hE k (by omega), (hU.I rfl).trans (hS (i - k) (by omega))]
          conv => whnf
          rw [dnO_s, sh_le hg hn (show i < 10 by omega) (show k ≤ n by omega) (by omega), ← nI_1] at hN
          exact hN
      · refine go_wp ok_Solver_tellDown [68] 250 _ _ _ _ _ _ ?_
        refine And.intro (fun _ => ?_) (fun a => ?_)
        · conv => whnf
          refine cl_use (fun K h => c_WH_over Ω M2 (dnO g n i (n + 1)) by_ K h) trivial ?_
          conv => whnf
          refine And.intro (vp_in_nI (by omega) (by decide)) ?_
          conv => whnf
          refine And.intro (vp_in_nI (by omega) (by decide)) ?_
          rw [nI_clamp (by omega), (hU.J rfl).trans (hW i hi)]
          have := hN (sJ M2 24 0 i (ovS (dnO g n i (n + 1)) by_ + ws i)) ⟨hU.pJ rfl, fun k hk => hE k hk, fun i' hi' => ?_⟩ (some (vJ (dnO g n i (n + 1)))) none (some (vI (nI (n + 1))))
          · rw [← nI_1] at this
            exact this
          · rw [mJ_sJ]
            by_cases e : i' = i
            · rw [if_pos ⟨rfl, rfl, e⟩, e]
            · rw [if_neg (fun q => e q.2.2)]; exact hD i' (by omega)
        · rw [hs2, nI_ltI (by omega) (by omega)] at a; omega
    · rintro M2 ⟨hU, hE, hD⟩ r6 r7 r8
      have hs2 : mI M2 2 0 4 = nI n := (hU.I rfl).trans hs
      refine go_wp ok_Solver_tellDown [] 250 _ _ _ _ _ _ ?_
      refine And.intro (fun _ => hK M2 hU hE hD) (fun a => ?_)
      rw [hs2, nI_leI (by omega) (by omega)] at a; omega
  refine call_go (hJL rfl) (Nat.le_of_ble_eq_true rfl) (go_wp ok_Solver_tellDown [5] 250 _ _ _ _ _ _ ?_)
  conv => whnf
  refine loopN (n + 1) (fun j M1 => Un wDn M M1 ∧ ∀ k, k < j → mJ M1 41 0 k = eg g n k)
    (fun j M1 => ∀ (r6 r7 : Option Vl), GoS Ω true m_Solver_tellDown K 5 [some (vR (some (6, 0))), some (vJ by_), none, some (vJ (bfS g n j)), none, some (vI (nI j)), r6, r7, none] [] M1 0 0) ?_ ?_ 0 M (Nat.zero_le _) ⟨Un.rfl, fun k h => absurd h (Nat.not_lt_zero _)⟩ none none
  · rintro j M1 hj ⟨hU, hE⟩ hN r6 r7
    have hs2 : mI M1 2 0 4 = nI n := (hU.I rfl).trans hs
    refine go_wp ok_Solver_tellDown [5] 250 _ _ _ _ _ _ ?_
    refine And.intro (fun a => ?_) (fun _ => ?_)
    · rw [hs2, nI_ltI (by omega) (by omega)] at a; omega
    have hstep : ∀ x : Int64, x = (if j < n then g j else 0) → GoS Ω true m_Solver_tellDown K 5 [some (vR (some (6, 0))), some (vJ by_), none, some (vJ x), none, some (vI (nI j + 1)), some (vJ x), none, none] [] (sJ M1 41 0 j (x - bfS g n j)) 0 0 := by
      intro x hx
      have := hN (sJ M1 41 0 j (x - bfS g n j)) ⟨hU.pJ rfl, fun k hk => ?_⟩ (some (vJ x)) none
      · rw [bf_s, ← hx, ← nI_1] at this
        exact this
      · rw [mJ_sJ]
        by_cases e : k = j
        · rw [if_pos ⟨rfl, rfl, e⟩, e, bf_eg (by omega), hx]
        · rw [if_neg (fun q => e q.2.2)]; exact hE k (by omega)
    conv => whnf
    refine And.intro (fun a => ?_) (fun a => ?_)
    · rw [hs2, nI_leI (by omega) (by omega)] at a
      conv => whnf
      refine And.intro (vp_in_nI (by omega) (by decide)) ?_
      rw [nI_clamp (by omega)]
      exact hstep 0 (if_neg (by omega)).symm
    · rw [hs2, nI_leI (by omega) (by omega)] at a
      conv => whnf
      refine And.intro (vp_in_nI (by omega) (by decide)) ?_
      rw [nI_clamp (by omega), (hU.J rfl).trans (hG j (by omega))]
      conv => whnf
      refine And.intro (vp_in_nI (by omega) (by decide)) ?_
      rw [nI_clamp (by omega)]
      exact hstep (g j) (if_pos (by omega)).symm
  · rintro M1 ⟨hU, hE⟩ r6 r7
    have hs2 : mI M1 2 0 4 = nI n := (hU.I rfl).trans hs
    refine go_wp ok_Solver_tellDown [68] 250 _ _ _ _ _ _ ?_
    refine And.intro (fun _ => ?_) (fun a => ?_)
    · conv => whnf
      exact l2 _ M1 hU (fun k hk => hE k (by omega)) r6 r7 none
    · rw [hs2, nI_ltI (by omega) (by omega)] at a; omega
