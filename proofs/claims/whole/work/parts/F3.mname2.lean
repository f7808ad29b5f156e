/-! READ: the model's reader: a name, II -/
/-- the names told, as the model keeps them -/
def NmM (M : Mem) (p : Nat) (N : Nm) (nl nh nw nb : Nat) : Prop :=
  (∀ k, k < nl → ∃ so, (so = 200 ∧ mI M 76 0 (8 * p + k) = 0 ∨ so = 201 ∧ mI M 76 0 (8 * p + k) = 1) ∧ (mJ M 75 0 (8 * p + k), so, k) ∈ N) ∧
  (∀ k, k < nh → (mJ M 81 0 (4 * p + k), 202, k) ∈ N) ∧ (∀ k, k < nw → (mJ M 85 0 (4 * p + k), 203, k) ∈ N) ∧ (∀ k, k < nb → (mJ M 98 0 (8 * p + k), 204, k) ∈ N) ∧
  (∀ q, q ∈ N → ((q.2.1 = 200 ∨ q.2.1 = 201) ∧ q.2.2 < nl ∧ mJ M 75 0 (8 * p + q.2.2) = q.1) ∨ (q.2.1 = 202 ∧ q.2.2 < nh ∧ mJ M 81 0 (4 * p + q.2.2) = q.1) ∨ (q.2.1 = 203 ∧ q.2.2 < nw ∧ mJ M 85 0 (4 * p + q.2.2) = q.1) ∨ (q.2.1 = 204 ∧ q.2.2 < nb ∧ mJ M 98 0 (8 * p + q.2.2) = q.1)) ∧
  N.Pairwise (fun a b => ¬ a.1 = b.1)
theorem nmI_eq {N : Nm} {x : Int64} : nmI N x = true ↔ ∃ q, q ∈ N ∧ q.1 = x := by
  unfold nmI
  rw [List.any_eq_true]
  exact ⟨fun ⟨q, h1, h2⟩ => ⟨q, h1, of_decide_eq_true h2⟩, fun ⟨q, h1, h2⟩ => ⟨q, h1, decide_eq_true h2⟩⟩
theorem NmM.any {M : Mem} {p : Nat} {N : Nm} {nl nh nw nb : Nat} (h : NmM M p N nl nh nw nb) (x : Int64) :
    ((((false || anyN (fun k => mJ M 75 0 (8 * p + k)) x nl) || anyN (fun k => mJ M 81 0 (4 * p + k)) x nh) || anyN (fun k => mJ M 85 0 (4 * p + k)) x nw) || anyN (fun k => mJ M 98 0 (8 * p + k)) x nb) = nmI N x := by
  obtain ⟨a1, a2, a3, a4, a5, -⟩ := h
  rw [Bool.eq_iff_iff, Bool.or_eq_true, Bool.or_eq_true, Bool.or_eq_true, Bool.false_or, anyN_eq, anyN_eq, anyN_eq, anyN_eq, nmI_eq]
  constructor
  · rintro (((⟨j, h1, h2⟩ | ⟨j, h1, h2⟩) | ⟨j, h1, h2⟩) | ⟨j, h1, h2⟩)
    · obtain ⟨so, -, m⟩ := a1 j h1
      exact ⟨_, m, h2⟩
    · exact ⟨_, a2 j h1, h2⟩
    · exact ⟨_, a3 j h1, h2⟩
    · exact ⟨_, a4 j h1, h2⟩
  · rintro ⟨q, h1, rfl⟩
    rcases a5 q h1 with ⟨_, b, c⟩ | ⟨_, b, c⟩ | ⟨_, b, c⟩ | ⟨_, b, c⟩
    · exact Or.inl (Or.inl (Or.inl ⟨_, b, c⟩))
    · exact Or.inl (Or.inl (Or.inr ⟨_, b, c⟩))
    · exact Or.inl (Or.inr ⟨_, b, c⟩)
    · exact Or.inr ⟨_, b, c⟩
theorem blS_some {k : Nat} {b : Bool} {s : Ps} {q : Nat × Nat} (h : s.2.2 = some q) : blS k b s = s := by
  unfold blS
  rw [h]
  obtain ⟨a, c, d⟩ := s
  split
  · cases h; rfl
  · rfl
set_option maxHeartbeats 1000000 in
theorem c_MD_named (Ω : Om) (M : Mem) (B : Nat → Nat) (n p so num nl nh nw nb : Nat) (N : Nm) (e : Except Fa Ps) (K : Ka) (hn : n ≤ 2000) (h : PsM M B n e) (hp : p < 4) (h20 : mI M 12 0 20 = nI p) (h74 : mI M 74 0 p = nI nl) (h80 : mI M 80 0 p = nI nh) (h84 : mI M 84 0 p = nI nw) (h97 : mI M 97 0 p = nI nb) (hl : nl ≤ 8) (hh : nh ≤ 4) (hw : nw ≤ 4) (hb : nb ≤ 8)
    (hN : ∀ s, e = .ok s → s.2.2 = none → NmM M p N nl nh nw nb)
    (hK : ∀ M', Un wMe M M' → PsM M' B n (eb (eb e fun s => nmS B n so num s N) fun r => .ok r.1) → K (some (vI (mI M 12 0 11))) M') : CallS Ω true m_MD_named [vR (some (12, 0))] M K := by
  rw [nm_ss] at hK
  refine call_go (hJL rfl) (Nat.le_of_ble_eq_true rfl) (go_wp ok_MD_named [32] 250 _ _ _ _ _ _ ?_)
  conv => whnf
  refine ⟨fun r M' => r = none ∧ Un wMe M M' ∧ PsM M' B n (eb e (tkS B n 2)), c_MD_must Ω M B n 2 1 e _ rfl (by decide) rfl (by decide) h (fun M' a b => ⟨rfl, a, b⟩), trivial, ?_⟩
  rintro r M1 ⟨rfl, U1, P1⟩
  conv => whnf
  rcases rm_fault P1 with ⟨f, e1, e2, e3⟩ | ⟨s', e1, e2, e3⟩
  · refine And.intro (fun q => absurd q e3) (fun _ => ?_)
    rw [e1, eb_x] at hK
    rw [e1] at P1
    exact hK M1 U1 P1
  refine And.intro (fun _ => ?_) (fun q => absurd (show mI M1 12 0 13 ≤ 0 by rw [e2]; decide) q)
  rw [e1] at P1
  rw [e1, eb_k] at hK
  obtain ⟨s, rfl, h2⟩ := eb_ok e1
  obtain ⟨h3, h4, rfl⟩ := tkS_ok h2
  obtain ⟨⟨hr, -⟩, g11, -, gl⟩ := h.2
  have hnm : mJ M1 72 0 s.1 = tkV B n s.1 := (P1.1 s.1 hr).2.2.2 h3
  rw [g11] at hK ⊢
  conv => whnf
  refine And.intro (vp_in_nI (by omega) (by decide)) ?_
  rw [nI_clamp (by omega), hnm]
  have hK : ∀ M', Un wMe M M' → PsM M' B n (.ok (blS 3 (nmI N (tkV B n s.1)) (s.1 + 1, s.1, s.2.2))) → K (some (vI (nI s.1))) M' := hK
  generalize tkV B n s.1 = x at hK
  have k20 : mI M1 12 0 20 = nI p := (U1.I rfl).trans h20
  have k74 : mI M1 74 0 p = nI nl := (U1.I rfl).trans h74
  have k80 : mI M1 80 0 p = nI nh := (U1.I rfl).trans h80
  have k84 : mI M1 84 0 p = nI nw := (U1.I rfl).trans h84
  have k97 : mI M1 97 0 p = nI nb := (U1.I rfl).trans h97
  have hx : s.2.2 = none → ((((false || anyN (fun k => mJ M1 75 0 (8 * p + k)) x nl) || anyN (fun k => mJ M1 81 0 (4 * p + k)) x nh) || anyN (fun k => mJ M1 85 0 (4 * p + k)) x nw) || anyN (fun k => mJ M1 98 0 (8 * p + k)) x nb) = nmI N x := fun hs => by
    rw [← (hN s rfl hs).any x, show (fun k => mJ M1 75 0 (8 * p + k)) = (fun k => mJ M 75 0 (8 * p + k)) from funext fun k => U1.J rfl, show (fun k => mJ M1 81 0 (4 * p + k)) = (fun k => mJ M 81 0 (4 * p + k)) from funext fun k => U1.J rfl, show (fun k => mJ M1 85 0 (4 * p + k)) = (fun k => mJ M 85 0 (4 * p + k)) from funext fun k => U1.J rfl, show (fun k => mJ M1 98 0 (8 * p + k)) = (fun k => mJ M 98 0 (8 * p + k)) from funext fun k => U1.J rfl]
  refine nd_law (b0 := false) hp k20 k74 hl ?_ nl 0 (by omega)
  refine go_wp ok_MD_named [87] 250 _ _ _ _ _ _ ?_
  conv => whnf
  refine nd_hin hp k20 k80 hh ?_ nh 0 (by omega) |> (fun h => by rw [anyN, Bool.or_false] at h; exact h)
  refine go_wp ok_MD_named [141] 250 _ _ _ _ _ _ ?_
  conv => whnf
  refine nd_win hp k20 k84 hw ?_ nw 0 (by omega) |> (fun h => by rw [anyN, Bool.or_false] at h; exact h)
  refine go_wp ok_MD_named [195] 250 _ _ _ _ _ _ ?_
  conv => whnf
  refine nd_bar hp k20 k97 hb ?_ nb 0 (by omega) |> (fun h => by rw [anyN, Bool.or_false] at h; exact h)
  refine go_wp ok_MD_named [] 250 _ _ _ _ _ _ ?_
  conv => whnf
  generalize ((((false || anyN (fun k => mJ M1 75 0 (8 * p + k)) x nl) || anyN (fun k => mJ M1 81 0 (4 * p + k)) x nh) || anyN (fun k => mJ M1 85 0 (4 * p + k)) x nw) || anyN (fun k => mJ M1 98 0 (8 * p + k)) x nb) = b at hx
  refine br_bz (fun c => ?_) (fun c => ?_)
  · refine hK M1 U1 ?_
    cases hs : s.2.2 with
    | none =>
      rw [← hx hs, c]
      rw [hs] at P1
      exact P1
    | some q =>
      rw [blS_some rfl]
      rw [hs] at P1
      exact P1
  · conv => whnf
    refine ⟨fun r M' => r = none ∧ Un wMe M1 M' ∧ PsM M' B n (.ok (blS 3 true (s.1 + 1, s.1, s.2.2))), c_MD_wrong Ω M1 B n 3 (s.1 + 1, s.1, s.2.2) _ hn (Or.inl rfl) (by show 1 ≤ s.1 + 1; omega) (fun q hq => ?_) P1 (fun M' a b => ⟨rfl, a, b⟩), trivial, ?_⟩
    · have hq : s.2.2 = some q := hq
      rw [hq] at gl
      exact gl.1.2
    · rintro r M2 ⟨rfl, U2, P2⟩
      conv => whnf
      refine hK M2 (U1.trans U2) ?_
      cases hs : s.2.2 with
      | none =>
        rw [← hx hs, c]
        rw [hs] at P2
        exact P2
      | some q =>
        rw [hs] at P2
        rw [blS_some rfl] at P2 ⊢
        exact P2
