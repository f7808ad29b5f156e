/-! READ: a text while it is told, in the class -/
def stU (Ls : Nat → List Lt) : Nat → List (Int32 × Int32)
  | 0 => []
  | b + 1 => stU Ls b ++ BrC (Ls b)
theorem stU_cg {Ls Ls' : Nat → List Lt} : ∀ {b : Nat}, (∀ i, i < b → Ls' i = Ls i) → stU Ls' b = stU Ls b := by
  intro b
  induction b with
  | zero => intro _; rfl
  | succ b ih => intro h; rw [stU, stU, ih (fun i hi => h i (by omega)), h b (by omega)]
def WgP (M : Mem) (q w : Nat) (T : Tx) (lt : Option (Nat × Nat)) : Prop := (∃ ns, 1 ≤ ns ∧ ns ≤ 10 ∧ T 86 w = nI ns ∧ WsP M q w T ns lt) ∧ WmP M q w T
def CtC (M : Mem) (t : Nat) (C : Cn) (s : Ps) : Prop :=
  ((mI M 7 t 1 = nI (xl C) ∧ mI M 7 t 4 = nI (xh C) ∧ mI M 7 t 6 = nI (xw C) ∧ mI M 0 t 4 = nI (xb C)) ∧ (xl C ≤ 8 ∧ xh C ≤ 4 ∧ xw C ≤ 4 ∧ xb C ≤ 8)) ∧
  (San1 M t ∧ San4 M t) ∧
  ((∀ k, k < xl C → ∃ np, np ≤ 8 ∧ xT C 77 k = nI np ∧ LwP M t k (xT C) np) ∧ ∀ k, xl C ≤ k → k < 8 → mI M 3 (8 * t + k) 2 = 0) ∧
  (∀ h, h < xh C → mI M 43 t h = xT C 82 h) ∧
  ((∀ w, w < xw C → WgP M (4 * t + w) w (xT C) s.2.2) ∧ ∀ w, xw C ≤ w → w < 4 → WgD M (4 * t + w)) ∧
  ((s.2.2 = none → NmC M t (xN C)) ∧ (xN C).length ≤ xl C + xh C + xw C + xb C) ∧
  (StpC M t (stU (xL C) (xb C)) ∧ (stU (xL C) (xb C)).length ≤ s.1 ∧ ∀ b, b < xb C → mI M 15 t b = nI (stU (xL C) (b + 1)).length)
theorem LwP.cg {M M' : Mem} {t k np : Nat} {T T' : Tx} (h : LwP M t k T np) (hnp : np ≤ 8) (hU : ∀ k' s, k' = 3 ∨ k' = 27 ∨ k' = 28 → mI M' k' (8 * t + k) s = mI M k' (8 * t + k) s) (hT : ∀ f j, f = 78 ∨ f = 79 → j < 8 → T' f (8 * k + j) = T f (8 * k + j)) : LwP M' t k T' np :=
  ⟨(hU 3 2 (by omega)).trans h.1, fun j hj => ⟨by rw [hU 27 j (by omega), hT 78 j (by omega) (by omega)]; exact (h.2 j hj).1, by rw [hU 28 j (by omega), hT 79 j (by omega) (by omega)]; exact (h.2 j hj).2⟩⟩
theorem WmP.cg {M M' : Mem} {q w : Nat} {T T' : Tx} (h : WmP M q w T) (hU : ∀ k s, k = 10 ∨ k = 62 → mI M' k q s = mI M k q s) (hT : ∀ f, 87 ≤ f → f ≤ 90 → T' f w = T f w) (hT2 : ∀ j, j < 4 → T' 91 (4 * w + j) = T 91 (4 * w + j)) : WmP M' q w T' := by
  obtain ⟨a, b, c, d, e⟩ := h
  unfold WmP
  rw [hT 87 (by decide) (by decide), hT 88 (by decide) (by decide), hT 89 (by decide) (by decide), hT 90 (by decide) (by decide), hU 10 6 (by omega), hU 10 7 (by omega), hU 10 8 (by omega), hU 10 10 (by omega)]
  exact ⟨a, b, c, d, fun z j hj => by rw [hU 62 j (by omega), hT2 j hj]; exact e z j hj⟩
theorem WgP.cg {M M' : Mem} {q w : Nat} {T T' : Tx} {lt lt' : Option (Nat × Nat)} (h : WgP M q w T lt) (hw : w < 4) (hU : ∀ k s, k = 10 ∨ (57 ≤ k ∧ k ≤ 62) → mI M' k q s = mI M k q s) (hT : ∀ f a, 86 ≤ f → f ≤ 90 → a = w → T' f a = T f a) (hT2 : ∀ j, j < 4 → T' 91 (4 * w + j) = T 91 (4 * w + j)) (hT3 : ∀ f j, 92 ≤ f → f ≤ 96 → j < 10 → T' f (10 * w + j) = T f (10 * w + j)) (hl : lt' = none → lt = none) : WgP M' q w T' lt' := by
  obtain ⟨⟨ns, n1, n2, n3, n4⟩, m⟩ := h
  refine ⟨⟨ns, n1, n2, by rw [hT 86 w (by decide) (by decide) rfl]; exact n3, (hU 10 0 (by omega)).trans n4.1, fun i hi => ?_⟩, m.cg (fun k s hk => hU k s (by omega)) (fun f h1 h2 => hT f w (by omega) h2 rfl) hT2⟩
  obtain ⟨a, b, c⟩ := n4.2 i hi
  rw [hT3 92 i (by decide) (by decide) (by omega), hT3 93 i (by decide) (by decide) (by omega), hT3 94 i (by decide) (by decide) (by omega), hT3 95 i (by decide) (by decide) (by omega), hT3 96 i (by decide) (by decide) (by omega), hU 57 i (by omega), hU 58 i (by omega), hU 59 i (by omega), hU 60 i (by omega), hU 61 i (by omega)]
  exact ⟨a, b, fun e => c (hl e)⟩
theorem StpC.cg {M M' : Mem} {t : Nat} {xs : List (Int32 × Int32)} {w : Nat → Nat → Nat → Bool} (h : StpC M t xs) (hU : Un w M M') (h2 : w 0 t 2 = false) (h3 : ∀ i s, w 13 i s = false) (h4 : ∀ i s, w 14 i s = false) : StpC M' t xs := ⟨⟨(hU.I h2).trans h.1.1, h.1.2⟩, h.2.un hU h3 h4⟩
/-- what a law changes of the page -/
theorem lwS_T {B : Nat → Nat} {n so : Nat} {s : Ps} {C : Cn} {r : Ps × Cn} (h : lwS B n so s C = .ok r) : (∀ f a, (f = 77 → ¬ a = xl C) → (f = 78 ∨ f = 79 → a < 8 * xl C ∨ 8 * xl C + 8 ≤ a) → xT r.2 f a = xT C f a) ∧ (xl r.2 = xl C + 1 ∧ xh r.2 = xh C ∧ xw r.2 = xw C ∧ xb r.2 = xb C ∧ xL r.2 = xL C) ∧ (xN r.2).length ≤ (xN C).length + 1 := by
  unfold lwS at h
  split at h
  · cases h
  · obtain ⟨a1, g1, hr⟩ := eb_ok h
    obtain ⟨a2, g2, hr⟩ := eb_ok hr
    obtain ⟨a3, g3, hr⟩ := eb_ok hr
    obtain ⟨a4, g4, hr⟩ := eb_ok hr
    obtain ⟨a5, g5, hr⟩ := eb_ok hr
    obtain ⟨a6, g6, hr⟩ := eb_ok hr
    obtain ⟨a7, g7, hr⟩ := eb_ok hr
    obtain ⟨a8, g8, hr⟩ := eb_ok hr
    cases hr
    refine ⟨fun f a h1 h2 => ?_, ⟨rfl, rfl, rfl, rfl, rfl⟩, ?_⟩
    · have e := ((ptL_T g7 f a h1 h2).trans ((ptS_T g6 (by decide)).1 f a h1 h2)).trans ((ptS_T g4 (by decide)).1 f a h1 h2)
      refine e.trans ?_
      unfold upT
      exact if_neg (fun q => h1 q.1 q.2)
    · obtain ⟨s1, z1, z2⟩ := eb_ok g2
      cases z2
      show (if nmI (xN C) (tkV B n s1.2.1) = true then xN C else xN C ++ [(tkV B n s1.2.1, so, xl C)]).length ≤ _
      split
      · omega
      · rw [List.length_append]; exact Nat.le_refl _
theorem CtC.lw {M M' : Mem} {B : Nat → Nat} {n t so : Nat} {s : Ps} {C : Cn} {r : Ps × Cn} (h : CtC M t C s) (hr : lwS B n so s C = .ok r) (hm : Mo s r.1) (hU : Un (wLw t (8 * t + xl C)) M M') (hS1 : San1 M' t) (h1 : mI M' 7 t 1 = nI (xl C + 1)) (hlt : xl C < 8) (hL : ∃ np, np ≤ 8 ∧ xT r.2 77 (xl C) = nI np ∧ LwP M' t (xl C) (xT r.2) np) (hN : r.1.2.2 = none → NmC M' t (xN r.2)) : CtC M' t r.2 r.1 := by
  obtain ⟨⟨⟨c1, c2, c3, c4⟩, d1, d2, d3, d4⟩, ⟨_, s4⟩, ⟨l1, l2⟩, h43, ⟨w1, w2⟩, ⟨_, nl⟩, st1, st2, st3⟩ := h
  obtain ⟨hT, ⟨e1, e2, e3, e4, e5⟩, eN⟩ := lwS_T hr
  have u : ∀ k i s, wLw t (8 * t + xl C) k i s = false → mI M' k i s = mI M k i s := fun k i s h => hU.I h
  have uw : ∀ k i s, k = 10 ∨ (57 ≤ k ∧ k ≤ 62) ∨ k = 43 ∨ k = 15 ∨ k = 0 ∨ k = 13 ∨ k = 14 → wLw t (8 * t + xl C) k i s = false := fun k i s h => by simp [wLw, wPt, wRe, wPb, wNb, nb_d, nl_d]; omega
  refine ⟨⟨⟨?_, ?_, ?_, ?_⟩, ?_⟩, ⟨hS1, ?_⟩, ⟨fun k hk => ?_, fun k hk hk8 => ?_⟩, fun h hh => ?_, ⟨fun w hw => ?_, fun w hw hw4 => ?_⟩, ⟨hN, by omega⟩, ?_⟩
  · rw [e1]; exact h1
  · rw [e2]; exact (u _ _ _ (by simp [wLw, wPt, wRe, wPb, wNb, nb_d, nl_d])).trans c2
  · rw [e3]; exact (u _ _ _ (by simp [wLw, wPt, wRe, wPb, wNb, nb_d, nl_d])).trans c3
  · rw [e4]; exact (u _ _ _ (uw _ _ _ (by omega))).trans c4
  · rw [e1, e2, e3, e4]; exact ⟨hlt, d2, d3, d4⟩
  · obtain ⟨c, a, b⟩ := s4
    exact ⟨c, a, (u _ _ _ (uw _ _ _ (by omega))).trans b⟩
  · rw [e1] at hk
    by_cases e : k = xl C
    · rw [e]; exact hL
    · obtain ⟨np, n1, n2, n3⟩ := l1 k (by omega)
      refine ⟨np, n1, (hT 77 k (fun _ => e) (fun q => by omega)).trans n2, n3.cg n1 (fun k' s hk' => u _ _ _ ?_) (fun f j hf hj => hT f _ (fun q => by omega) (fun _ => by omega))⟩
      simp [wLw, wPt, wRe, wPb, wNb, nb_d, nl_d]
      omega
  · rw [e1] at hk
    refine (u _ _ _ ?_).trans (l2 k (by omega) hk8)
    simp [wLw, wPt, wRe, wPb, wNb, nb_d, nl_d]
    omega
  · rw [e2] at hh
    rw [u _ _ _ (uw _ _ _ (by omega)), hT 82 h (fun q => by omega) (fun q => by omega)]
    exact h43 h hh
  · rw [e3] at hw
    exact (w1 w hw).cg (by omega) (fun k s hk => u _ _ _ (uw _ _ _ (by omega))) (fun f a f1 f2 _ => hT f a (fun q => by omega) (fun q => by omega)) (fun j hj => hT _ _ (fun q => by omega) (fun q => by omega)) (fun f j f1 f2 hj => hT _ _ (fun q => by omega) (fun q => by omega)) hm.2
  · rw [e3] at hw
    exact (w2 w hw hw4).un hU (fun s => uw _ _ _ (by omega))
  · rw [e4, e5]
    exact ⟨st1.cg hU (uw _ _ _ (by omega)) (fun i s => uw _ _ _ (by omega)) (fun i s => uw _ _ _ (by omega)), Nat.le_trans st2 hm.1, fun b hb => (u _ _ _ (uw _ _ _ (by omega))).trans (st3 b hb)⟩
theorem CtC.hi {M M' : Mem} {B : Nat → Nat} {n t : Nat} {s : Ps} {C : Cn} {r : Ps × Cn} (h : CtC M t C s) (hr : hiS B n s C = .ok r) (hm : Mo s r.1) (hU : Un (wHi t (xh C)) M M') (hS1 : San1 M' t) (h1 : mI M' 7 t 4 = nI (xh C + 1)) (hlt : xh C < 4) (hL : mI M' 43 t (xh C) = xT r.2 82 (xh C)) (hN : r.1.2.2 = none → NmC M' t (xN r.2)) : CtC M' t r.2 r.1 := by
  obtain ⟨⟨⟨c1, c2, c3, c4⟩, d1, d2, d3, d4⟩, ⟨_, s4⟩, ⟨l1, l2⟩, h43, ⟨w1, w2⟩, ⟨_, nl⟩, st1, st2, st3⟩ := h
  have hT : (∀ f a, (f = 82 → ¬ a = xh C) → xT r.2 f a = xT C f a) ∧ (xl r.2 = xl C ∧ xh r.2 = xh C + 1 ∧ xw r.2 = xw C ∧ xb r.2 = xb C ∧ xL r.2 = xL C) ∧ (xN r.2).length ≤ (xN C).length + 1 := by
    unfold hiS at hr
    split at hr
    · cases hr
    · obtain ⟨a1, g1, hr⟩ := eb_ok hr
      obtain ⟨a2, g2, hr⟩ := eb_ok hr
      obtain ⟨a3, g3, hr⟩ := eb_ok hr
      obtain ⟨a4, g4, hr⟩ := eb_ok hr
      cases hr
      refine ⟨fun f a h1 => ?_, ⟨rfl, rfl, rfl, rfl, rfl⟩, ?_⟩
      · show upT (xT C) 82 (xh C) a3.2 f a = xT C f a
        unfold upT
        exact if_neg (fun q => h1 q.1 q.2)
      · obtain ⟨s1, z1, z2⟩ := eb_ok g2
        cases z2
        show (if nmI (xN C) (tkV B n s1.2.1) = true then xN C else xN C ++ [(tkV B n s1.2.1, 202, xh C)]).length ≤ _
        split
        · omega
        · rw [List.length_append]; exact Nat.le_refl _
  obtain ⟨hT, ⟨e1, e2, e3, e4, e5⟩, eN⟩ := hT
  have u : ∀ k i s, wHi t (xh C) k i s = false → mI M' k i s = mI M k i s := fun k i s h => hU.I h
  have uw : ∀ k i s, k = 10 ∨ (57 ≤ k ∧ k ≤ 62) ∨ k = 3 ∨ k = 27 ∨ k = 28 ∨ k = 15 ∨ k = 0 ∨ k = 13 ∨ k = 14 → wHi t (xh C) k i s = false := fun k i s h => by simp [wHi, wHb, wNa, wRe, wNb, nb_d, nl_d]; omega
  refine ⟨⟨⟨?_, ?_, ?_, ?_⟩, ?_⟩, ⟨hS1, ?_⟩, ⟨fun k hk => ?_, fun k hk hk8 => ?_⟩, fun h hh => ?_, ⟨fun w hw => ?_, fun w hw hw4 => ?_⟩, ⟨hN, by omega⟩, ?_⟩
  · rw [e1]; exact (u _ _ _ (by simp [wHi, wHb, wNa, wRe, wNb, nb_d, nl_d])).trans c1
  · rw [e2]; exact h1
  · rw [e3]; exact (u _ _ _ (by simp [wHi, wHb, wNa, wRe, wNb, nb_d, nl_d])).trans c3
  · rw [e4]; exact (u _ _ _ (uw _ _ _ (by omega))).trans c4
  · rw [e1, e2, e3, e4]; exact ⟨d1, hlt, d3, d4⟩
  · obtain ⟨c, a, b⟩ := s4
    exact ⟨c, a, (u _ _ _ (uw _ _ _ (by omega))).trans b⟩
  · rw [e1] at hk
    obtain ⟨np, n1, n2, n3⟩ := l1 k hk
    exact ⟨np, n1, (hT 77 k (fun q => by omega)).trans n2, n3.cg n1 (fun k' s hk' => u _ _ _ (uw _ _ _ (by omega))) (fun f j hf hj => hT f _ (fun q => by omega))⟩
  · rw [e1] at hk
    exact (u _ _ _ (uw _ _ _ (by omega))).trans (l2 k hk hk8)
  · rw [e2] at hh
    by_cases e : h = xh C
    · rw [e]; exact hL
    · rw [u _ _ _ (by simp [wHi, wHb, wNa, wRe, wNb, nb_d, nl_d]; omega), hT 82 h (fun _ => e)]
      exact h43 h (by omega)
  · rw [e3] at hw
    exact (w1 w hw).cg (by omega) (fun k s hk => u _ _ _ (uw _ _ _ (by omega))) (fun f a f1 f2 _ => hT f a (fun q => by omega)) (fun j hj => hT _ _ (fun q => by omega)) (fun f j f1 f2 hj => hT _ _ (fun q => by omega)) hm.2
  · rw [e3] at hw
    exact (w2 w hw hw4).un hU (fun s => uw _ _ _ (by omega))
  · rw [e4, e5]
    exact ⟨st1.cg hU (uw _ _ _ (by omega)) (fun i s => uw _ _ _ (by omega)) (fun i s => uw _ _ _ (by omega)), Nat.le_trans st2 hm.1, fun b hb => (u _ _ _ (uw _ _ _ (by omega))).trans (st3 b hb)⟩
