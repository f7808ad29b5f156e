/-! CONSTRUCTORS, VI: Tokens -/
def tkLet (x : Int64) (c : Int32) : Int64 := x * 27 + (c - 97 + 1).toInt64
theorem c_TK_let (Ω : Om) (md : Bool) (M : Mem) (x : Int64) (c : Int32) (K : Ka) (h : K (some (vJ (tkLet x c))) M) : CallS Ω md m_Tokens_withLetter [vJ x, vI c] M K := by
  refine call_go (hJL rfl) (Nat.le_of_ble_eq_true rfl) (go_wp ok_Tokens_withLetter [] 50 _ _ _ _ _ _ ?_)
  conv => whnf
  exact h
/-- the words after j letters of the text -/
def wS : Nat → Nat → Int64
  | 0, _ => 0
  | j + 1, s => if sCh j = 32 then wS j s else if s = j / 5 then tkLet (wS j s) (sCh j) else wS j s
def wEnd : Bool := (List.range 22).all fun s => decide (wS 110 s = iJ 49 s)
theorem wEnd_ok : wEnd = true := by decide +kernel
theorem wS_end {s : Nat} (hs : s < 22) : wS 110 s = iJ 49 s := of_decide_eq_true (List.all_eq_true.mp wEnd_ok s (List.mem_range.mpr hs))
def wDiv : Bool := (List.range 110).all fun j => decide (nI j / 5 = nI (j / 5))
theorem wDiv_ok : wDiv = true := by decide +kernel
theorem wDiv_at {j : Nat} (h : j < 110) : nI j / 5 = nI (j / 5) := of_decide_eq_true (List.all_eq_true.mp wDiv_ok j (List.mem_range.mpr h))
theorem w22 {j : Nat} (h : j < 110) : j / 5 < 22 := by omega
theorem w22n {j : Nat} (h : j < 110) : ¬ (22 : Int32) ≤ nI (j / 5) := by
  rw [show (22 : Int32) = nI 22 from rfl, nI_leI (by omega) (by omega)]
  omega
theorem j110 {j : Nat} (hj : j ≤ 110) (g : (110 : Int32) ≤ nI j) : j = 110 := by
  rw [show (110 : Int32) = nI 110 from rfl, nI_leI (by omega) (by omega)] at g
  omega
theorem j110n {j : Nat} (hj : j ≤ 110) (g : ¬ (110 : Int32) ≤ nI j) : j < 110 := by
  rw [show (110 : Int32) = nI 110 from rfl, nI_leI (by omega) (by omega)] at g
  omega
/-- when j letters are taken -/
def TK (op : List (Nat × Nat)) (j : Nat) (M M' : Mem) : Prop :=
  IV M' ((49, 0) :: op) ∧ (∀ k, mC M' k = mC M k) ∧ Unch [49] M M' ∧ (∀ s, mI M' 49 0 s = 0 ∧ mR M' 49 0 s = none ∧ mJ M' 49 0 s = wS j s) ∧ mR M' 8 0 0 = some (49, 0)
theorem TK.same {op : List (Nat × Nat)} {j : Nat} {M M' : Mem} (h : TK op j M M') (hc : sCh j = 32) : TK op (j + 1) M M' := by
  refine ⟨h.1, h.2.1, h.2.2.1, fun s => ⟨(h.2.2.2.1 s).1, (h.2.2.2.1 s).2.1, ?_⟩, h.2.2.2.2⟩
  rw [wS, if_pos hc]
  exact (h.2.2.2.1 s).2.2
theorem TK.step {op : List (Nat × Nat)} {j : Nat} {M M' : Mem} (h : TK op j M M') (hc : ¬ sCh j = 32) : TK op (j + 1) M (sJ M' 49 0 (j / 5) (tkLet (mJ M' 49 0 (j / 5)) (sCh j))) := by
  refine ⟨IV.putJ h.1 List.mem_cons_self, h.2.1, Unch.putJ h.2.2.1 (by simp), fun s => ⟨(h.2.2.2.1 s).1, (h.2.2.2.1 s).2.1, ?_⟩, h.2.2.2.2⟩
  rw [mJ_sJ, wS, if_neg hc]
  by_cases e : s = j / 5
  · rw [if_pos ⟨rfl, rfl, e⟩, if_pos e, (h.2.2.2.1 (j / 5)).2.2, e]
  · rw [if_neg (fun q => e q.2.2), if_neg e]
    exact (h.2.2.2.1 s).2.2
theorem TK.fin {op : List (Nat × Nat)} {M M' : Mem} (h : TK op 110 M M') : IV M' op := by
  refine IV.close (k := 49) (i := 0) h.1 (fun s hs => ?_)
  have hs : s < 22 := hs
  refine ⟨(h.2.2.2.1 s).1.trans rfl, ?_, (h.2.2.2.1 s).2.1.trans rfl⟩
  rw [(h.2.2.2.1 s).2.2]
  exact wS_end hs
set_option maxHeartbeats 8000000 in
theorem lp_Tokens {Ω : Om} {K : Ka} {M : Mem} {op : List (Nat × Nat)} (hK : ∀ M', IV M' op → (∀ k, mC M' k = mC M k) → Unch [49] M M' → K none M') : ∀ (f j : Nat) (M' : Mem) (a : Option Vl), j ≤ 110 → 110 - j ≤ f → TK op j M M' → GoS Ω false m_Tokens_init K 66 [some (vR (some (8, 0))), some (vI (nI j)), a] [] M' 4 1525 := by
  intro f
  induction f with
  | zero =>
    intro j M' a hj hf h
    have e : j = 110 := by omega
    subst e
    refine go_wp ok_Tokens_init [] 30 _ _ _ _ _ _ ?_
    conv => whnf
    refine cl_use (fun K h => c_S_length Ω false M' K h) ⟨Nat.le_of_ble_eq_true rfl, Nat.le_of_ble_eq_true rfl⟩ ?_
    refine br_t (Int32.le_refl _) ?_
    exact hK M' h.fin h.2.1 h.2.2.1
  | succ f ih =>
    intro j M' a hj hf h
    refine go_wp ok_Tokens_init [66] 40 _ _ _ _ _ _ ?_
    conv => whnf
    refine cl_use (fun K h => c_S_length Ω false M' K h) ⟨Nat.le_of_ble_eq_true rfl, Nat.le_of_ble_eq_true rfl⟩ ?_
    refine And.intro (fun g => ?_) (fun g => ?_)
    · have e : j = 110 := j110 hj g
      subst e
      exact hK M' h.fin h.2.1 h.2.2.1
    · have hlt : j < 110 := j110n hj g
      conv => whnf
      refine cl_use (fun K h => c_S_charAt Ω false M' j hlt K h) ⟨Nat.le_of_ble_eq_true rfl, Nat.le_of_ble_eq_true rfl⟩ ?_
      refine And.intro (fun g => ?_) (fun g => ?_)
      · have hfin := ih (j + 1) M' (some (vI (sCh j))) hlt (st1 hf) (h.same g)
        rw [← nI_1] at hfin
        exact hfin
      · conv => whnf
        refine And.intro (by decide) ?_
        rw [wDiv_at hlt]
        conv => whnf
        rw [show rR false M' 8 0 0 = some (49, 0) from h.2.2.2.2]
        refine br_f (w22n hlt) ?_
        conv => whnf
        rw [show rR false M' 8 0 0 = some (49, 0) from h.2.2.2.2]
        conv => whnf
        refine And.intro (by decide) ?_
        rw [wDiv_at hlt]
        conv => whnf
        rw [show rR false M' 8 0 0 = some (49, 0) from h.2.2.2.2]
        conv => whnf
        refine And.intro (by decide) ?_
        rw [wDiv_at hlt]
        conv => whnf
        refine And.intro (vp_in_nI (w22 hlt) (by decide)) ?_
        rw [nI_clamp (Nat.lt_trans (w22 hlt) (by decide))]
        conv => whnf
        refine cl_use (fun K h => c_TK_let Ω false M' _ _ K h) ⟨Nat.le_of_ble_eq_true rfl, Nat.le_of_ble_eq_true rfl⟩ ?_
        conv => whnf
        refine And.intro (vp_in_nI (w22 hlt) (by decide)) ?_
        rw [nI_clamp (Nat.lt_trans (w22 hlt) (by decide))]
        have hfin := ih (j + 1) (sJ M' 49 0 (j / 5) (tkLet (mJ M' 49 0 (j / 5)) (sCh j))) (some (vI (sCh j))) hlt (st1 hf) (h.step g)
        rw [← nI_1] at hfin
        exact hfin
