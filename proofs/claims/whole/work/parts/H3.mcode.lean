/-! READ: the model's reader: codes that come out -/
def CdM (M : Mem) (q : Nat) (C : List Cd) : Prop := mI M 12 0 55 = nI (q + C.length) ∧ SpM M q C
def WtM (M : Mem) (P : List Nat) : Prop := mI M 12 0 60 = nI P.length ∧ ∀ j, j < P.length → mI M 109 0 (P.length - 1 - j) = nI (mkK (P.getD j 0))
def wCd (lo hi k _i s : Nat) : Bool := (Nat.beq k 12 && (Nat.beq s 55 || Nat.beq s 60)) || ((Nat.beq k 107 || Nat.beq k 108) && (Nat.ble lo s && Nat.ble (s + 1) hi))
theorem SpM.snoc {M M' : Mem} {q : Nat} {C : List Cd} {k : Nat} {v : Int32} (h : SpM M q C) (hU : ∀ s, s < q + C.length → mI M' 107 0 s = mI M 107 0 s ∧ mI M' 108 0 s = mI M 108 0 s) (h1 : mI M' 107 0 (q + C.length) = nI k) (h2 : mI M' 108 0 (q + C.length) = v) : SpM M' q (C ++ [(k, v)]) :=
  (h.cg hU (Nat.le_refl _)).app ⟨⟨h1, h2⟩, trivial⟩
theorem CdM.snoc {M : Mem} {q k : Nat} {C : List Cd} {v : Int32} (h : CdM M q C) : CdM (sI (sI (sI M 107 0 (q + C.length) (nI k)) 108 0 (q + C.length) v) 12 0 55 (nI (q + C.length + 1))) q (C ++ [(k, v)]) := by
  refine ⟨?_, h.2.snoc (fun s hs => ⟨?_, ?_⟩) ?_ ?_⟩
  · rw [mI_eq, List.length_append]; rfl
  · rw [mI_ne rfl, mI_ne rfl, mI_sI, if_neg (fun c => by have := c.2.2; omega)]
  · rw [mI_ne rfl, mI_sI, if_neg (fun c => by have := c.2.2; omega), mI_ne rfl]
  · rw [mI_ne rfl, mI_ne rfl, mI_eq]
  · rw [mI_ne rfl, mI_eq]
theorem c_MD_emit (Ω : Om) (M : Mem) (q : Nat) (k v : Int32) (K : Ka) (hq : q < 2600) (h55 : mI M 12 0 55 = nI q) (hK : K none (sI (sI (sI M 107 0 q k) 108 0 q v) 12 0 55 (nI (q + 1)))) : CallS Ω true m_MD_emit [vR (some (12, 0)), vI k, vI v] M K := by
  refine call_go (hJL rfl) (Nat.le_of_ble_eq_true rfl) (go_wp ok_MD_emit [] 250 _ _ _ _ _ _ ?_)
  conv => whnf
  rw [h55]
  refine And.intro (vp_in_nI (by omega) (by decide)) ?_
  rw [nI_clamp (by omega)]
  have e1 : mI (sI M 107 0 q k) 12 0 55 = nI q := (mI_ne rfl).trans h55
  have e2 : mI (sI (sI M 107 0 q k) 108 0 q v) 12 0 55 = nI q := (mI_ne rfl).trans e1
  conv => whnf
  rw [e1]
  refine And.intro (vp_in_nI (by omega) (by decide)) ?_
  rw [nI_clamp (by omega)]
  conv => whnf
  rw [e2, nI_1]
  exact hK
theorem wCd_emit {M : Mem} {lo hi q : Nat} {k v x : Int32} (h1 : lo ≤ q) (h2 : q < hi) : Un (wCd lo hi) M (sI (sI (sI M 107 0 q k) 108 0 q v) 12 0 55 x) := by
  have a : Nat.ble lo q = true := Nat.ble_eq.mpr h1
  have b : Nat.ble (q + 1) hi = true := Nat.ble_eq.mpr h2
  refine ((Un.rfl.pI ?_).pI ?_).pI rfl
  · simp [wCd, a, b]
  · simp [wCd, a, b]
theorem wCd_up {lo hi lo' hi' : Nat} (h1 : lo' ≤ lo) (h2 : hi ≤ hi') : ∀ k i s, wCd lo' hi' k i s = false → wCd lo hi k i s = false := mono_of (fun k i s h => by
  simp [wCd, nb_d, nl_d] at h ⊢
  omega)
theorem WtM.cg {M M' : Mem} {P : List Nat} (h : WtM M P) (h1 : mI M' 12 0 60 = mI M 12 0 60) (h2 : ∀ s, s < P.length → mI M' 109 0 s = mI M 109 0 s) : WtM M' P := ⟨h1.trans h.1, fun j hj => (h2 _ (by omega)).trans (h.2 j hj)⟩
def sgP (p : Nat) : Prop := p = 40 ∨ p = 42 ∨ p = 43 ∨ p = 45 ∨ p = 47
set_option maxHeartbeats 2000000 in
theorem co_loop {Ω : Om} {K : Ka} {M0 : Mem} {q lo hi : Nat} {z : Bool} {Pf : List Nat} {Cf : List Cd} (hlo : lo ≤ q) (hhi : hi ≤ 2600)
    (hK : ∀ M', Un (wCd lo hi) M0 M' → WtM M' Pf → CdM M' q Cf → K none M') :
    ∀ (P : List Nat) (C : List Cd) (M : Mem) (a2 : Option Vl), (∀ p, p ∈ P → sgP p) → P.length ≤ 64 → Un (wCd lo hi) M0 M → WtM M P → CdM M q C → rlP (if z = true then 2 else 1) P = Pf → C ++ rlC (if z = true then 2 else 1) P = Cf → q + Cf.length ≤ hi →
      GoS Ω true m_MD_comesOut K 0 [some (vR (some (12, 0))), some (vI (bI z)), a2] [] M 0 0 := by
  intro P
  induction P with
  | nil =>
    intro C M a2 hs hl hU hW hC hp hc hh
    refine go_wp ok_MD_comesOut [] 250 _ _ _ _ _ _ ?_
    conv => whnf
    rw [hW.1]
    refine And.intro (fun _ => ?_) (fun c => absurd (show nI ([] : List Nat).length ≤ 0 by decide) c)
    conv => whnf
    have hp : [] = Pf := hp
    have hc : C = Cf := by rw [← hc]; exact (List.append_nil _).symm
    rw [hp] at hW
    rw [hc] at hC
    exact hK M hU hW hC
  | cons p P ih =>
    intro C M a2 hs hl hU hW hC hp hc hh
    have hl2 : P.length + 1 ≤ 64 := hl
    have hw0 : mI M 109 0 P.length = nI (mkK p) := by
      have := hW.2 0 (Nat.succ_pos _)
      rw [show (p :: P).length - 1 - 0 = P.length by rw [List.length_cons]; omega] at this
      exact this
    have h60 : mI M 12 0 60 = nI (P.length + 1) := hW.1
    have ret : ¬ (if z = true then 2 else 1) ≤ rk p → K none M := fun c => by
      rw [rlP, if_neg c] at hp
      rw [rlC, if_neg c, List.append_nil] at hc
      rw [hp] at hW
      rw [hc] at hC
      exact hK M hU hW hC
    have pop : (if z = true then 2 else 1) ≤ rk p → CallS Ω true m_MD_emit [vR (some (12, 0)), vI (nI (opc p)), vI 0] (sI M 12 0 60 (nI P.length)) (fun r M' => r = none ∧ ∀ a2, GoS Ω true m_MD_comesOut K 0 [some (vR (some (12, 0))), some (vI (bI z)), a2] [] M' 0 0) := fun c => by
      rw [rlP, if_pos c] at hp
      rw [rlC, if_pos c] at hc
      have hlen : q + C.length < hi := by
        have := congrArg List.length hc
        rw [List.length_append, List.length_cons] at this
        omega
      have C1 : CdM (sI M 12 0 60 (nI P.length)) q C := ⟨(mI_st rfl).trans hC.1, hC.2.cg (hi := q + C.length) (fun s _ => ⟨mI_ne rfl, mI_ne rfl⟩) (Nat.le_refl _)⟩
      refine c_MD_emit Ω _ (q + C.length) _ _ _ (by omega) C1.1 ⟨rfl, fun a2 => ?_⟩
      refine ih (C ++ [(opc p, 0)]) _ a2 (fun x hx => hs x (List.mem_cons_of_mem _ hx)) (by omega) (hU.trans (Un.trans (Un.rfl.pI rfl) (wCd_emit (by omega) hlen))) ?_ C1.snoc hp (by rw [List.append_assoc]; exact hc) hh
      refine ⟨?_, fun j hj => ?_⟩
      · rw [mI_st rfl, mI_ne rfl, mI_ne rfl, mI_eq]
      · rw [mI_ne rfl, mI_ne rfl, mI_ne rfl, mI_ne rfl]
        have := hW.2 (j + 1) (Nat.succ_lt_succ hj)
        rw [show (p :: P).length - 1 - (j + 1) = P.length - 1 - j by rw [List.length_cons]; omega] at this
        exact this
    refine go_wp ok_MD_comesOut [0] 250 _ _ _ _ _ _ ?_
    conv => whnf
    rw [h60]
    refine And.intro (fun c => ?_) (fun _ => ?_)
    · have c : nI (P.length + 1) ≤ nI 0 := c
      rw [nI_leI (by omega) (by omega)] at c
      omega
    conv => whnf
    rw [h60, show nI (P.length + 1) - 1 = nI P.length from pk_sub (b := 1) (by omega)]
    refine And.intro (vp_in_nI (by omega) (by decide)) ?_
    rw [nI_clamp (by omega), hw0]
    conv => whnf
    cases z with
    | false =>
      rcases hs p List.mem_cons_self with rfl | rfl | rfl | rfl | rfl
      · refine And.intro (fun _ => ?_) (fun c => absurd (by decide) c)
        exact ret (by decide)
      · refine And.intro (fun c => absurd c (by decide)) (fun _ => ?_)
        refine And.intro (fun _ => ?_) (fun c => absurd (by decide) c)
        conv => whnf
        rw [h60, show nI (P.length + 1) - 1 = nI P.length from pk_sub (b := 1) (by omega)]
        refine And.intro (fun _ => ?_) (fun c => absurd c (by decide))
        refine And.intro (fun _ => ?_) (fun c => absurd c (by decide))
        refine And.intro (fun c => absurd (by decide) c) (fun _ => ?_)
        conv => whnf
        refine ⟨_, pop (by decide), trivial, ?_⟩
        rintro r M1 ⟨rfl, g⟩
        conv => whnf
        exact g _
      · refine And.intro (fun c => absurd c (by decide)) (fun _ => ?_)
        refine And.intro (fun _ => ?_) (fun c => absurd (by decide) c)
        conv => whnf
        rw [h60, show nI (P.length + 1) - 1 = nI P.length from pk_sub (b := 1) (by omega)]
        refine And.intro (fun c => absurd (by decide) c) (fun _ => ?_)
        conv => whnf
        refine ⟨_, pop (by decide), trivial, ?_⟩
        rintro r M1 ⟨rfl, g⟩
        conv => whnf
        exact g _
      · refine And.intro (fun c => absurd c (by decide)) (fun _ => ?_)
        refine And.intro (fun _ => ?_) (fun c => absurd (by decide) c)
        conv => whnf
        rw [h60, show nI (P.length + 1) - 1 = nI P.length from pk_sub (b := 1) (by omega)]
        refine And.intro (fun _ => ?_) (fun c => absurd c (by decide))
        refine And.intro (fun c => absurd (by decide) c) (fun _ => ?_)
        conv => whnf
        refine ⟨_, pop (by decide), trivial, ?_⟩
        rintro r M1 ⟨rfl, g⟩
        conv => whnf
        exact g _
      · refine And.intro (fun c => absurd c (by decide)) (fun _ => ?_)
        refine And.intro (fun _ => ?_) (fun c => absurd (by decide) c)
        conv => whnf
        rw [h60, show nI (P.length + 1) - 1 = nI P.length from pk_sub (b := 1) (by omega)]
        refine And.intro (fun _ => ?_) (fun c => absurd c (by decide))
        refine And.intro (fun _ => ?_) (fun c => absurd c (by decide))
        refine And.intro (fun _ => ?_) (fun c => absurd c (by decide))
        conv => whnf
        refine ⟨_, pop (by decide), trivial, ?_⟩
        rintro r M1 ⟨rfl, g⟩
        conv => whnf
        exact g _
    | true =>
      rcases hs p List.mem_cons_self with rfl | rfl | rfl | rfl | rfl
      · refine And.intro (fun _ => ?_) (fun c => absurd (by decide) c)
        exact ret (by decide)
      · refine And.intro (fun c => absurd c (by decide)) (fun _ => ?_)
        refine And.intro (fun c => absurd c (by decide)) (fun _ => ?_)
        refine And.intro (fun c => absurd c (by decide)) (fun _ => ?_)
        refine And.intro (fun _ => ?_) (fun c => absurd c (by decide))
        conv => whnf
        rw [h60, show nI (P.length + 1) - 1 = nI P.length from pk_sub (b := 1) (by omega)]
        refine And.intro (fun _ => ?_) (fun c => absurd c (by decide))
        refine And.intro (fun _ => ?_) (fun c => absurd c (by decide))
        refine And.intro (fun c => absurd (by decide) c) (fun _ => ?_)
        conv => whnf
        refine ⟨_, pop (by decide), trivial, ?_⟩
        rintro r M1 ⟨rfl, g⟩
        conv => whnf
        exact g _
      · refine And.intro (fun c => absurd c (by decide)) (fun _ => ?_)
        refine And.intro (fun c => absurd c (by decide)) (fun _ => ?_)
        refine And.intro (fun _ => ?_) (fun c => absurd (by decide) c)
        exact ret (by decide)
      · refine And.intro (fun c => absurd c (by decide)) (fun _ => ?_)
        refine And.intro (fun c => absurd c (by decide)) (fun _ => ?_)
        refine And.intro (fun c => absurd c (by decide)) (fun _ => ?_)
        refine And.intro (fun c => absurd (by decide) c) (fun _ => ?_)
        exact ret (by decide)
      · refine And.intro (fun c => absurd c (by decide)) (fun _ => ?_)
        refine And.intro (fun c => absurd c (by decide)) (fun _ => ?_)
        refine And.intro (fun c => absurd c (by decide)) (fun _ => ?_)
        refine And.intro (fun _ => ?_) (fun c => absurd c (by decide))
        conv => whnf
        rw [h60, show nI (P.length + 1) - 1 = nI P.length from pk_sub (b := 1) (by omega)]
        refine And.intro (fun _ => ?_) (fun c => absurd c (by decide))
        refine And.intro (fun _ => ?_) (fun c => absurd c (by decide))
        refine And.intro (fun _ => ?_) (fun c => absurd c (by decide))
        conv => whnf
        refine ⟨_, pop (by decide), trivial, ?_⟩
        rintro r M1 ⟨rfl, g⟩
        conv => whnf
        exact g _
theorem c_MD_comesOut (Ω : Om) (M : Mem) (q lo hi : Nat) (z : Bool) (P : List Nat) (C : List Cd) (K : Ka) (hlo : lo ≤ q) (hhi : hi ≤ 2600) (hs : ∀ p, p ∈ P → sgP p) (hl : P.length ≤ 64) (hW : WtM M P) (hC : CdM M q C) (hh : q + (C ++ rlC (if z = true then 2 else 1) P).length ≤ hi)
    (hK : ∀ M', Un (wCd lo hi) M M' → WtM M' (rlP (if z = true then 2 else 1) P) → CdM M' q (C ++ rlC (if z = true then 2 else 1) P) → K none M') : CallS Ω true m_MD_comesOut [vR (some (12, 0)), vI (bI z)] M K :=
  call_go (hJL rfl) (Nat.le_of_ble_eq_true rfl) (co_loop hlo hhi hK P C M none hs hl Un.rfl hW hC rfl rfl hh)
