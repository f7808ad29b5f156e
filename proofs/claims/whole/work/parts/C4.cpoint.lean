/-! READ: the class's reader: names told and asked; points -/
theorem blS_lt {k : Nat} {b b' : Bool} {s : Ps} (h : s.2.2 ≠ none ∨ b = b') : blS k b s = blS k b' s := by
  rcases h with h | h
  · have : ∀ b, blS k b s = s := fun b => by
      unfold blS
      obtain ⟨a, tk, lt⟩ := s
      cases lt with
      | none => exact absurd rfl h
      | some q => split <;> rfl
    rw [this, this]
  · rw [h]
theorem eb_cg {α β : Type} {x : Except Fa α} {f g : α → Except Fa β} (h : ∀ a, x = .ok a → f a = g a) : eb x f = eb x g := by
  cases x with
  | error e => rw [eb_x, eb_x]
  | ok a => rw [eb_k, eb_k]; exact h a rfl
theorem PsC.re {M M' : Mem} {B : Nat → Nat} {n t : Nat} {e : Except Fa Ps} (h : PsC M B n e) (hU : Un (wNb t) M M') : PsC M' B n e := h.un hU (fun s _ => rfl) (fun _ => rfl) (fun k s hk => by rcases hk with rfl | rfl | rfl | rfl | rfl <;> rfl)
theorem San1.re {M M' : Mem} {t : Nat} (h : San1 M t) (hU : Un wRe M M') : San1 M' t := by
  obtain ⟨c, a, b⟩ := h
  exact ⟨c, a, (hU.I rfl).trans b⟩
theorem NmC.re {M M' : Mem} {t : Nat} {N : Nm} (h : NmC M t N) (hU : Un wRe M M') : NmC M' t N := h.un hU rfl (fun k s hk => by rcases hk with rfl | rfl | rfl <;> rfl)
theorem nm_ss {B : Nat → Nat} {n so nu : Nat} {N : Nm} {e : Except Fa Ps} : eb (eb e fun s => nmS B n so nu s N) (fun r => .ok r.1) = eb (eb e (tkS B n 2)) (fun s => .ok (blS 3 (nmI N (tkV B n s.2.1)) s)) := by
  rw [eb_eb, eb_eb]
  refine eb_cg (fun s _ => ?_)
  unfold nmS
  rw [eb_eb]
  exact eb_cg (fun s _ => by rw [eb_k])
theorem nm_rr {B : Nat → Nat} {n so nu : Nat} {N : Nm} {e : Except Fa Ps} {r : Ps × Nm} (h : eb e (fun s => nmS B n so nu s N) = .ok r) : ∃ s, eb e (tkS B n 2) = .ok s ∧ r.1 = blS 3 (nmI N (tkV B n s.2.1)) s ∧ r.2 = if nmI N (tkV B n s.2.1) = true then N else N ++ [(tkV B n s.2.1, so, nu)] := by
  obtain ⟨s0, q1, q2⟩ := eb_ok h
  obtain ⟨s, q3, q4⟩ := eb_ok q2
  cases q4
  exact ⟨s, by rw [q1, eb_k]; exact q3, rfl, rfl⟩
theorem kn_ss {B : Nat → Nat} {n so : Nat} {N : Nm} {e : Except Fa Ps} : eb (eb e fun s => knS B n so s N) (fun r => .ok r.1) = eb (eb e (tkS B n 2)) (fun s => .ok (blS 4 (nmF N (tkV B n s.2.1) so).isNone s)) := by
  rw [eb_eb, eb_eb]
  refine eb_cg (fun s _ => ?_)
  unfold knS
  rw [eb_eb]
  exact eb_cg (fun s _ => by rw [eb_k])
theorem kn_rr {B : Nat → Nat} {n so : Nat} {N : Nm} {e : Except Fa Ps} {r : Ps × Option Nat} (h : eb e (fun s => knS B n so s N) = .ok r) : ∃ s, eb e (tkS B n 2) = .ok s ∧ r.1 = blS 4 (nmF N (tkV B n s.2.1) so).isNone s ∧ r.2 = nmF N (tkV B n s.2.1) so := by
  obtain ⟨s0, q1, q2⟩ := eb_ok h
  obtain ⟨s, q3, q4⟩ := eb_ok q2
  cases q4
  exact ⟨s, by rw [q1, eb_k]; exact q3, rfl, rfl⟩
theorem tk_lt {B : Nat → Nat} {n due : Nat} {e : Except Fa Ps} {s : Ps} (h : eb e (tkS B n due) = .ok s) : ∃ s0, e = .ok s0 ∧ s.2.2 = s0.2.2 := by
  obtain ⟨s0, q1, q2⟩ := eb_ok h
  obtain ⟨_, _, rfl⟩ := tkS_ok q2
  exact ⟨s0, q1, rfl⟩
theorem bl_none {k : Nat} {b : Bool} {s : Ps} (h : (blS k b s).2.2 = none) : b = false ∧ s.2.2 = none := by
  unfold blS at h
  cases b with
  | true => cases h
  | false => exact ⟨rfl, h⟩
set_option maxHeartbeats 1000000 in
theorem c_named (Ω : Om) (M : Mem) (B : Nat → Nat) (n t so nu : Nat) (N : Nm) (e : Except Fa Ps) (K : Ka) (hb : so < 300 ∧ nu < 100) (h : PsC M B n e) (hS : San1 M t) (hl : N.length < 24) (hN : ∀ s, e = .ok s → s.2.2 = none → NmC M t N)
    (hK : ∀ M', Un (wNa t) M M' → PsC M' B n (eb (eb e fun s => nmS B n so nu s N) fun r => .ok r.1) → San1 M' t → (∀ r, (eb e fun s => nmS B n so nu s N) = .ok r → r.1.2.2 = none → NmC M' t r.2) → K none M') :
    CallS Ω true m_Reader_named [vR (some (4, 0)), vR (some (7, t)), vI (nI so), vI (nI nu)] M K := by
  refine call_go (hJL rfl) (Nat.le_of_ble_eq_true rfl) (go_wp ok_Reader_named [] 250 _ _ _ _ _ _ ?_)
  conv => whnf
  refine ⟨fun r M' => r = none ∧ Un wRe M M' ∧ PsC M' B n (eb e (tkS B n 2)), c_take Ω M B n 2 e _ ⟨by decide, by decide⟩ h (fun M' a b => ⟨rfl, a, b⟩), trivial, ?_⟩
  rintro r M1 ⟨rfl, hU1, h1⟩
  conv => whnf
  refine ⟨fun r M' => ∃ y, r = some (vJ y) ∧ M' = M1 ∧ ∀ i, rch B n i → mI M1 4 0 3 = nI i → y = tkV B n i, c_tkVal Ω M1 B n _ _ h1.1.2 h1.1.2.c (fun y hy => ⟨y, rfl, rfl, hy⟩), trivial, ?_⟩
  rintro r M2 ⟨y, rfl, rfl, hy⟩
  have hS1 := hS.re hU1
  obtain ⟨c, hc, h11⟩ := id hS1
  have key : ∀ s, eb e (tkS B n 2) = .ok s → y = tkV B n s.2.1 ∧ 1 ≤ s.1 := fun s hs => by
    have h2 := h1.2
    rw [hs] at h2
    exact ⟨hy _ (rch_tk h2) h2.2.2.2.1, tk_pos hs⟩
  have rel : ∀ s, eb e (tkS B n 2) = .ok s → s.2.2 = none → NmC M2 t N ∧ (niS (fun i => mJ M2 46 t i) y c 0).isSome = nmI N (tkV B n s.2.1) := fun s hs hn => by
    obtain ⟨s0, q1, q2⟩ := tk_lt hs
    have hN2 := (hN s0 q1 (by rw [← q2]; exact hn)).re hU1
    have e1 : N.length = c := by
      have := hN2.1
      rw [h11] at this
      exact ((nI_eq (by omega) (by omega)).mp this).symm
    rw [← (key s hs).1]
    refine ⟨hN2, ?_⟩
    rw [← e1]
    exact (ni_find (f := fun i => mJ M2 46 t i) (x := y) N 0 (fun j hj => by rw [Nat.zero_add]; exact (hN2.2 j hj).1)).2.2
  conv => whnf
  refine cl_use (fun K h => c_nameIndex Ω M2 t c y K hc h11 h) trivial ?_
  cases hr : niS (fun i => mJ M2 46 t i) y c 0 with
  | some k =>
    rw [hr] at rel
    have hk := niS_lt _ _ _ hr
    refine And.intro (fun q => absurd q (nI_pos (n := k) (by omega))) (fun _ => ?_)
    conv => whnf
    refine ⟨fun r M' => r = none ∧ Un wRe M2 M' ∧ PsC M' B n (eb (eb e (tkS B n 2)) fun s => .ok (blS 3 true s)), c_blame Ω M2 B n 3 _ _ (by decide) h1 (fun s hs => (key s hs).2) (fun M' a b => ⟨rfl, a, b⟩), trivial, ?_⟩
    rintro r M3 ⟨rfl, q1, q2⟩
    conv => whnf
    refine hK M3 ((hU1.trans q1).mono wNa_re) ?_ (hS1.re q1) (fun r hr2 hn => ?_)
    · rw [nm_ss, show eb (eb e (tkS B n 2)) (fun s => .ok (blS 3 (nmI N (tkV B n s.2.1)) s)) = eb (eb e (tkS B n 2)) (fun s => .ok (blS 3 true s)) from eb_cg (fun s hs => by
        congr 1
        refine blS_lt ?_
        by_cases z : s.2.2 = none
        · exact Or.inr (rel s hs z).2.symm
        · exact Or.inl z)]
      exact q2
    · obtain ⟨s, z1, z2, z3⟩ := nm_rr hr2
      rw [z2] at hn
      obtain ⟨z4, z5⟩ := bl_none hn
      have := (rel s z1 z5).2
      rw [z4] at this
      cases this
  | none =>
    rw [hr] at rel
    refine And.intro (fun _ => ?_) (fun q => absurd (show (-1 : Int32) < 0 by decide) q)
    conv => whnf
    refine ⟨fun r M' => r = none ∧ Un (wNb t) M2 M' ∧ San1 M' t ∧ (∀ N, NmC M2 t N → N.length < 24 → NmC M' t (N ++ [(y, so, nu)])), c_addName Ω M2 t so nu y _ hS1 hb (fun M' a b c => ⟨rfl, a, b, c⟩), trivial, ?_⟩
    rintro r M3 ⟨rfl, q1, q2, q3⟩
    conv => whnf
    refine hK M3 ((hU1.mono wNa_re).trans (q1.mono wNa_nb)) ?_ q2 (fun r hr2 hn => ?_)
    · rw [nm_ss, show eb (eb e (tkS B n 2)) (fun s => .ok (blS 3 (nmI N (tkV B n s.2.1)) s)) = eb e (tkS B n 2) from by
        rw [← blS_f 3 (eb e (tkS B n 2))]
        rw [blS_f 3 (eb e (tkS B n 2))]
        rw [show eb (eb e (tkS B n 2)) (fun s => .ok (blS 3 (nmI N (tkV B n s.2.1)) s)) = eb (eb e (tkS B n 2)) (fun s => .ok (blS 3 false s)) from eb_cg (fun s hs => by
          congr 1
          refine blS_lt ?_
          by_cases z : s.2.2 = none
          · exact Or.inr (rel s hs z).2.symm
          · exact Or.inl z), blS_f]]
      exact h1.re q1
    · obtain ⟨s, z1, z2, z3⟩ := nm_rr hr2
      rw [z2] at hn
      obtain ⟨z4, z5⟩ := bl_none hn
      rw [z3, z4, if_neg (by decide), ← (key s z1).1]
      exact q3 N (rel s z1 z5).1 hl
theorem nmF_lt {M : Mem} {t so k : Nat} {N : Nm} {x : Int64} (hN : NmC M t N) (h : nmF N x so = some k) : k < 100 := by
  unfold nmF at h
  split at h
  · cases h
  next q hq =>
    split at h
    · cases h
      have hm := List.mem_of_find?_eq_some hq
      obtain ⟨j, hj, e⟩ := List.mem_iff_getElem.mp hm
      have := (hN.2 j hj).2.2.2.2
      rw [List.getD_eq_getElem?_getD, List.getElem?_eq_getElem hj, e] at this
      exact this
    · cases h
set_option maxHeartbeats 1000000 in
theorem c_known (Ω : Om) (M : Mem) (B : Nat → Nat) (n t so : Nat) (N : Nm) (e : Except Fa Ps) (K : Ka) (hb : so < 300) (h : PsC M B n e) (hS : San1 M t) (hl : N.length ≤ 24) (hN : ∀ s, e = .ok s → s.2.2 = none → NmC M t N)
    (hK : ∀ M' v, Un wRe M M' → PsC M' B n (eb (eb e fun s => knS B n so s N) fun r => .ok r.1) → (∀ r, (eb e fun s => knS B n so s N) = .ok r → r.1.2.2 = none → v = hI r.2) → K (some (vI v)) M') :
    CallS Ω true m_Reader_known [vR (some (4, 0)), vR (some (7, t)), vI (nI so)] M K := by
  refine call_go (hJL rfl) (Nat.le_of_ble_eq_true rfl) (go_wp ok_Reader_known [31] 250 _ _ _ _ _ _ ?_)
  conv => whnf
  refine ⟨fun r M' => r = none ∧ Un wRe M M' ∧ PsC M' B n (eb e (tkS B n 2)), c_take Ω M B n 2 e _ ⟨by decide, by decide⟩ h (fun M' a b => ⟨rfl, a, b⟩), trivial, ?_⟩
  rintro r M1 ⟨rfl, hU1, h1⟩
  conv => whnf
  refine ⟨fun r M' => ∃ y, r = some (vJ y) ∧ M' = M1 ∧ ∀ i, rch B n i → mI M1 4 0 3 = nI i → y = tkV B n i, c_tkVal Ω M1 B n _ _ h1.1.2 h1.1.2.c (fun y hy => ⟨y, rfl, rfl, hy⟩), trivial, ?_⟩
  rintro r M2 ⟨y, rfl, rfl, hy⟩
  have hS1 := hS.re hU1
  have key : ∀ s, eb e (tkS B n 2) = .ok s → y = tkV B n s.2.1 ∧ 1 ≤ s.1 := fun s hs => by
    have h2 := h1.2
    rw [hs] at h2
    exact ⟨hy _ (rch_tk h2) h2.2.2.2.1, tk_pos hs⟩
  conv => whnf
  refine ⟨fun r M' => ∃ v, r = some (vI v) ∧ M' = M2 ∧ ∀ N, NmC M2 t N → N.length ≤ 24 → v = hI (nmF N y so), c_numberNamed Ω M2 t so y _ hS1 hb (fun v hv => ⟨v, rfl, rfl, hv⟩), trivial, ?_⟩
  rintro r M3 ⟨v, rfl, rfl, hv⟩
  have rel : ∀ s, eb e (tkS B n 2) = .ok s → s.2.2 = none → v = hI (nmF N (tkV B n s.2.1) so) ∧ (v < 0 ↔ (nmF N (tkV B n s.2.1) so).isNone = true) := fun s hs hn => by
    obtain ⟨s0, q1, q2⟩ := tk_lt hs
    have hN2 := (hN s0 q1 (by rw [← q2]; exact hn)).re hU1
    have e1 := hv N hN2 hl
    rw [(key s hs).1] at e1
    refine ⟨e1, ?_⟩
    rw [e1]
    cases hf : nmF N (tkV B n s.2.1) so with
    | none => exact ⟨fun _ => rfl, fun _ => by decide⟩
    | some k => exact ⟨fun q => absurd q (nI_pos (n := k) (by have := nmF_lt hN2 hf; omega)), fun q => by cases q⟩
  have fin : ∀ (b : Bool) (M4 : Mem), (v < 0 ↔ b = true) → Un wRe M3 M4 → PsC M4 B n (eb (eb e (tkS B n 2)) fun s => .ok (blS 4 b s)) → K (some (vI v)) M4 := by
    intro b M4 hb2 hU4 h4
    refine hK M4 v (hU1.trans hU4) ?_ (fun r hr hn => ?_)
    · rw [kn_ss, show eb (eb e (tkS B n 2)) (fun s => .ok (blS 4 (nmF N (tkV B n s.2.1) so).isNone s)) = eb (eb e (tkS B n 2)) (fun s => .ok (blS 4 b s)) from eb_cg (fun s hs => by
        congr 1
        refine blS_lt ?_
        by_cases z : s.2.2 = none
        · refine Or.inr ?_
          have := (rel s hs z).2
          rw [hb2] at this
          cases b <;> cases hh : (nmF N (tkV B n s.2.1) so).isNone <;> simp_all
        · exact Or.inl z)]
      exact h4
    · obtain ⟨s, z1, z2, z3⟩ := kn_rr hr
      rw [z2] at hn
      rw [z3]
      exact (rel s z1 (bl_none hn).2).1
  conv => whnf
  refine And.intro (fun c => ?_) (fun c => ?_)
  · refine go_wp ok_Reader_known [] 250 _ _ _ _ _ _ ?_
    refine fin false M3 ⟨fun q => absurd c (Int32.not_le.mpr q), fun q => by cases q⟩ Un.rfl ?_
    rw [blS_f]
    exact h1
  · conv => whnf
    refine ⟨fun r M' => r = none ∧ Un wRe M3 M' ∧ PsC M' B n (eb (eb e (tkS B n 2)) fun s => .ok (blS 4 true s)), c_blame Ω M3 B n 4 _ _ (by decide) h1 (fun s hs => (key s hs).2) (fun M' a b => ⟨rfl, a, b⟩), trivial, ?_⟩
    rintro r M4 ⟨rfl, q1, q2⟩
    refine go_wp ok_Reader_known [] 250 _ _ _ _ _ _ ?_
    exact fin true M4 ⟨fun _ => rfl, fun _ => Int32.not_le.mp c⟩ q1 q2
