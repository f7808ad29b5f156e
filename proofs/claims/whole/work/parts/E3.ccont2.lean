/-! READ: a text while it is told, in the class, II -/
theorem nmS_len {B : Nat → Nat} {n so nu : Nat} {s : Ps} {N : Nm} {r : Ps × Nm} (h : nmS B n so nu s N = .ok r) : r.2.length ≤ N.length + 1 := by
  obtain ⟨s1, z1, z2⟩ := eb_ok h
  cases z2
  show (if nmI N (tkV B n s1.2.1) = true then N else N ++ [(tkV B n s1.2.1, so, nu)]).length ≤ _
  split
  · omega
  · rw [List.length_append]; exact Nat.le_refl _
theorem stpS_T {B : Nat → Nat} {n w ns : Nat} {N : Nm} {s : Ps} {T : Tx} {r : Ps × Tx} (h : stpS B n w ns N s T = .ok r) : ∀ f a, (f = 86 → ¬ a = w) → (92 ≤ f ∧ f ≤ 96 → ¬ a = 10 * w + ns) → r.2 f a = T f a := by
  intro f a h1 h2
  rw [stp_eq] at h
  obtain ⟨r1, g1, h⟩ := eb_ok h
  obtain ⟨r2, g2, h⟩ := eb_ok h
  obtain ⟨r3, g3, h⟩ := eb_ok h
  obtain ⟨r4, g4, h⟩ := eb_ok h
  obtain ⟨r5, g5, h⟩ := eb_ok h
  cases h
  exact sT_ne h1 h2
theorem stpL_T {B : Nat → Nat} {n w : Nat} {N : Nm} : ∀ {f ns : Nat} {s : Ps} {T : Tx} {r : Ps × Tx}, stpL B n w N f ns s T = .ok r → ∀ g a, (g = 86 → ¬ a = w) → (92 ≤ g ∧ g ≤ 96 → a < 10 * w ∨ 10 * w + 10 ≤ a) → r.2 g a = T g a := by
  intro f
  induction f with
  | zero => intro ns s T r h; cases h; intro _ _ _ _; rfl
  | succ f ih =>
    intro ns s T r h g a h1 h2
    rw [stpL] at h
    split at h
    · obtain ⟨a1, g1, h⟩ := eb_ok h
      split at h
      · cases h
      · obtain ⟨b, h3, h4⟩ := eb_ok h
        exact (ih h4 g a h1 h2).trans (stpS_T h3 g a h1 (fun q => by have := h2 q; omega))
    · cases h; rfl
theorem wiS_T {B : Nat → Nat} {n : Nat} {s : Ps} {C : Cn} {r : Ps × Cn} (h : wiS B n s C = .ok r) : (∀ f a, (86 ≤ f ∧ f ≤ 90 → ¬ a = xw C) → (f = 91 → a < 4 * xw C ∨ 4 * xw C + 4 ≤ a) → (92 ≤ f ∧ f ≤ 96 → a < 10 * xw C ∨ 10 * xw C + 10 ≤ a) → xT r.2 f a = xT C f a) ∧ (xl r.2 = xl C ∧ xh r.2 = xh C ∧ xw r.2 = xw C + 1 ∧ xb r.2 = xb C ∧ xL r.2 = xL C) ∧ (xN r.2).length ≤ (xN C).length + 1 := by
  unfold wiS at h
  split at h
  · cases h
  · obtain ⟨a1, g1, hr⟩ := eb_ok h
    obtain ⟨a2, g2, hr⟩ := eb_ok hr
    obtain ⟨a3, g3, hr⟩ := eb_ok hr
    obtain ⟨a4, g4, hr⟩ := eb_ok hr
    obtain ⟨a5, g5, hr⟩ := eb_ok hr
    obtain ⟨a6, g6, hr⟩ := eb_ok hr
    obtain ⟨a7, g7, hr⟩ := eb_ok hr
    cases hr
    refine ⟨fun f a h1 h2 h3 => ?_, ⟨rfl, rfl, rfl, rfl, rfl⟩, nmS_len g2⟩
    have e := ((mkL_T g6 f a (fun q => h1 (by omega)) h2).trans (deT_ne (fun q => h1 (by omega)))).trans ((stpL_T g5 f a (fun q => h1 (by omega)) h3).trans (stpS_T g4 f a (fun q => h1 (by omega)) (fun q => by have := h3 q; omega)))
    refine e.trans ?_
    unfold upT
    exact if_neg (fun q => h1 (by omega) q.2)
theorem CtC.wi {M M' : Mem} {B : Nat → Nat} {n t : Nat} {s : Ps} {C : Cn} {r : Ps × Cn} (h : CtC M t C s) (hr : wiS B n s C = .ok r) (hm : Mo s r.1) (hU : Un (wWi t (4 * t + xw C)) M M') (hS1 : San1 M' t) (h1 : mI M' 7 t 6 = nI (xw C + 1)) (hlt : xw C < 4) (hL : WgP M' (4 * t + xw C) (xw C) (xT r.2) r.1.2.2) (hN : r.1.2.2 = none → NmC M' t (xN r.2)) : CtC M' t r.2 r.1 := by
  obtain ⟨⟨⟨c1, c2, c3, c4⟩, d1, d2, d3, d4⟩, ⟨_, s4⟩, ⟨l1, l2⟩, h43, ⟨w1, w2⟩, ⟨_, nl⟩, st1, st2, st3⟩ := h
  obtain ⟨hT, ⟨e1, e2, e3, e4, e5⟩, eN⟩ := wiS_T hr
  have u : ∀ k i s, wWi t (4 * t + xw C) k i s = false → mI M' k i s = mI M k i s := fun k i s h => hU.I h
  have uw : ∀ k i s, k = 43 ∨ k = 3 ∨ k = 27 ∨ k = 28 ∨ k = 15 ∨ k = 0 ∨ k = 13 ∨ k = 14 → wWi t (4 * t + xw C) k i s = false := fun k i s h => by simp [wWi, wWb, wSq, wSb, wMa, wRe, wNb, nb_d, nl_d]; omega
  refine ⟨⟨⟨?_, ?_, ?_, ?_⟩, ?_⟩, ⟨hS1, ?_⟩, ⟨fun k hk => ?_, fun k hk hk8 => ?_⟩, fun h hh => ?_, ⟨fun w hw => ?_, fun w hw hw4 => ?_⟩, ⟨hN, by omega⟩, ?_⟩
  · rw [e1]; exact (u _ _ _ (by simp [wWi, wWb, wSq, wSb, wMa, wRe, wNb, nb_d, nl_d])).trans c1
  · rw [e2]; exact (u _ _ _ (by simp [wWi, wWb, wSq, wSb, wMa, wRe, wNb, nb_d, nl_d])).trans c2
  · rw [e3]; exact h1
  · rw [e4]; exact (u _ _ _ (uw _ _ _ (by omega))).trans c4
  · rw [e1, e2, e3, e4]; exact ⟨d1, d2, hlt, d4⟩
  · obtain ⟨c, a, b⟩ := s4
    exact ⟨c, a, (u _ _ _ (uw _ _ _ (by omega))).trans b⟩
  · rw [e1] at hk
    obtain ⟨np, n1, n2, n3⟩ := l1 k hk
    exact ⟨np, n1, (hT 77 k (fun q => by omega) (fun q => by omega) (fun q => by omega)).trans n2, n3.cg n1 (fun k' s hk' => u _ _ _ (uw _ _ _ (by omega))) (fun f j hf hj => hT f _ (fun q => by omega) (fun q => by omega) (fun q => by omega))⟩
  · rw [e1] at hk
    exact (u _ _ _ (uw _ _ _ (by omega))).trans (l2 k hk hk8)
  · rw [e2] at hh
    rw [u _ _ _ (uw _ _ _ (by omega)), hT 82 h (fun q => by omega) (fun q => by omega) (fun q => by omega)]
    exact h43 h hh
  · rw [e3] at hw
    by_cases e : w = xw C
    · rw [e]; exact hL
    · refine (w1 w (by omega)).cg (by omega) (fun k s hk => u _ _ _ ?_) (fun f a f1 f2 f3 => hT f a (fun q => by omega) (fun q => by omega) (fun q => by omega)) (fun j hj => hT _ _ (fun q => by omega) (fun q => by omega) (fun q => by omega)) (fun f j f1 f2 hj => hT _ _ (fun q => by omega) (fun q => by omega) (fun q => by omega)) hm.2
      simp [wWi, wWb, wSq, wSb, wMa, wRe, wNb, nb_d, nl_d]
      omega
  · rw [e3] at hw
    refine (w2 w (by omega) hw4).un hU (fun s => ?_)
    simp [wWi, wWb, wSq, wSb, wMa, wRe, wNb, nb_d, nl_d]
    omega
  · rw [e4, e5]
    exact ⟨st1.cg hU (uw _ _ _ (by omega)) (fun i s => uw _ _ _ (by omega)) (fun i s => uw _ _ _ (by omega)), Nat.le_trans st2 hm.1, fun b hb => (u _ _ _ (uw _ _ _ (by omega))).trans (st3 b hb)⟩
/-- a bar's steps have their tokens -/
theorem liT_len {B : Nat → Nat} {n a : Nat} {o : Bool} {r : Nat × Lt} (h : liT B n o a = .ok r) : (bdC r.2).length + a ≤ r.1 ∧ r.2.2.2.1 = o ∧ LtOK r.2 := by
  obtain ⟨p, g1, hr⟩ := eb_ok h
  obtain ⟨l, g2, hr⟩ := eb_ok hr
  split at hr
  next c =>
    split at hr
    · cases hr
    · obtain ⟨q, g3, hr⟩ := eb_ok hr
      cases hr
      have e1 := ntS_at g1
      have w1 := exS_wf g2 (by decide) (show prS [] = some (0, 0) from rfl) (show wfc 17 [] 0 (0 + 0) from rfl) (by show 0 + 0 ≤ p.1; omega)
      have w2 := exS_wf g3 (by decide) (show prS [] = some (0, 0) from rfl) (show wfc 17 [] 0 (0 + 0) from rfl) (by show 0 + 0 ≤ l.1 + 1; omega)
      obtain ⟨D1, d1, d2⟩ := w1.2.2.2
      obtain ⟨D2, d3, d4⟩ := w2.2.2.2
      rw [List.nil_append] at d1 d3
      rw [← d1] at d2
      rw [← d3] at d4
      have d2 : l.2.length + p.1 ≤ l.1 + 0 := d2
      have d4 : q.2.length + (l.1 + 1) ≤ q.1 + 0 := d4
      refine ⟨?_, rfl, by show tkK B n l.1 - 4 ≤ 3; omega, w1.1, w2.1⟩
      show ((l.2 ++ q.2).map wdC ++ [(nI (4 + (tkK B n l.1 - 4)), bI p.2)]).length + a ≤ q.1
      rw [List.length_append, List.length_map, List.length_append]
      show l.2.length + q.2.length + 1 + a ≤ q.1
      omega
  · cases hr
theorem coS_len {B : Nat → Nat} {n : Nat} : ∀ {f : Nat} {o : Bool} {L : List Lt} {a : Nat} {r : Nat × List Lt} {a0 : Nat}, coS B n f o L a = .ok r → (BrC L ++ orX o L).length + a0 ≤ a → (∀ l, l ∈ L → LtOK l) → (L = [] → o = true) → (∀ l ls, L = l :: ls → l.2.2.1 = true) → (BrC r.2).length + a0 ≤ r.1 ∧ BOK r.2 ∧ L.length * 3 + (r.1 - a) ≥ 0 := by
  intro f
  induction f with
  | zero => intro o L a r a0 h; cases h
  | succ f ih =>
    intro o L a r a0 h hl hok h0 h1
    rw [coS] at h
    obtain ⟨p, g1, h⟩ := eb_ok h
    obtain ⟨e1, e2, e3⟩ := liT_len g1
    have eB : BrC (L ++ [p.2]) = BrC L ++ orX o L ++ bdC p.2 := by rw [BrC_app, e2]
    have lB : (BrC (L ++ [p.2])).length + a0 ≤ p.1 := by rw [eB, List.length_append]; omega
    have hok2 : ∀ l, l ∈ L ++ [p.2] → LtOK l := fun l hl => by
      rcases List.mem_append.mp hl with q | q
      · exact hok l q
      · rw [List.mem_singleton.mp q]; exact e3
    have hf : ∀ l ls, L ++ [p.2] = l :: ls → l.2.2.1 = true := fun l ls e => by
      cases L with
      | nil => cases e; rw [e2]; exact h0 rfl
      | cons y ys => cases e; exact h1 _ ys rfl
    have l1 : ∀ o' L', (orX o' L').length ≤ 1 := fun o' L' => by unfold orX; split <;> simp
    split at h
    · split at h
      · cases h
      · have := ih (a0 := a0) h (by rw [List.length_append]; have := l1 true (L ++ [p.2]); omega) hok2 (fun e => rfl) hf
        exact ⟨this.1, this.2.1, by omega⟩
    · split at h
      · split at h
        · cases h
        · have := ih (a0 := a0) h (by rw [List.length_append]; have := l1 false (L ++ [p.2]); omega) hok2 (fun e => by simp at e) hf
          exact ⟨this.1, this.2.1, by omega⟩
      · cases h
        refine ⟨lB, ⟨hok2, ?_⟩, by omega⟩
        cases hL : L ++ [p.2] with
        | nil => simp at hL
        | cons l ls => exact ⟨l, ls, rfl, hf l ls hL⟩
theorem baS_T {B : Nat → Nat} {n : Nat} {s : Ps} {C : Cn} {r : Ps × Cn} (h : baS B n s C = .ok r) : (xT r.2 = xT C ∧ xl r.2 = xl C ∧ xh r.2 = xh C ∧ xw r.2 = xw C ∧ xb r.2 = xb C + 1) ∧ (∀ i, ¬ i = xb C → xL r.2 i = xL C i) ∧ (xN r.2).length ≤ (xN C).length + 1 ∧ (BrC (xL r.2 (xb C))).length + s.1 ≤ r.1.1 ∧ BOK (xL r.2 (xb C)) := by
  unfold baS at h
  split at h
  · cases h
  · obtain ⟨a1, g1, hr⟩ := eb_ok h
    obtain ⟨a2, g2, hr⟩ := eb_ok hr
    obtain ⟨a3, g3, hr⟩ := eb_ok hr
    obtain ⟨a4, g4, hr⟩ := eb_ok hr
    obtain ⟨a5, g5, hr⟩ := eb_ok hr
    cases hr
    have c := coS_len (a0 := a3.1) g4 (by rw [show BrC [] ++ orX true [] = [] from by rw [show orX true [] = [] from if_neg (fun q => q.2 rfl)]; rfl]; show 0 + a3.1 ≤ a3.1; omega) (fun l hl => by cases hl) (fun _ => rfl) (fun l ls e => by cases e)
    have m := ((tkS_mo g1).1.trans ((nmS_mo g2).trans (tkS_mo g3).1)).1
    have m5 : a4.1 < a5.1 := (tkS_mo g5).2
    refine ⟨⟨rfl, rfl, rfl, rfl, rfl⟩, fun i hi => if_neg hi, nmS_len g2, ?_, ?_⟩
    · show (BrC (if xb C = xb C then a4.2 else xL C (xb C))).length + s.1 ≤ a5.1
      rw [if_pos rfl]
      have := c.1
      omega
    · show BOK (if xb C = xb C then a4.2 else xL C (xb C))
      rw [if_pos rfl]
      exact c.2.1
theorem CtC.ba {M M' : Mem} {B : Nat → Nat} {n t : Nat} {s : Ps} {C : Cn} {r : Ps × Cn} (h : CtC M t C s) (hr : baS B n s C = .ok r) (hm : Mo s r.1) (hU : Un (wBa t) M M') (hS1 : San1 M' t) (hS4 : San4 M' t) (h1 : mI M' 0 t 4 = nI (xb C + 1)) (hlt : xb C < 8) (h15 : ∀ i, ¬ i = xb C → mI M' 15 t i = mI M 15 t i) (hX : ∀ xs, StpC M t xs → xs.length ≤ s.1 → StpC M' t (xs ++ BrC (xL r.2 (xb C))) ∧ mI M' 15 t (xb C) = nI (xs ++ BrC (xL r.2 (xb C))).length) (hN : r.1.2.2 = none → NmC M' t (xN r.2)) : CtC M' t r.2 r.1 := by
  obtain ⟨⟨⟨c1, c2, c3, c4⟩, d1, d2, d3, d4⟩, ⟨_, s4⟩, ⟨l1, l2⟩, h43, ⟨w1, w2⟩, ⟨_, nl⟩, st1, st2, st3⟩ := h
  obtain ⟨⟨eT, e1, e2, e3, e4⟩, eL, eN, eB, -⟩ := baS_T hr
  have u : ∀ k i s, wBa t k i s = false → mI M' k i s = mI M k i s := fun k i s h => hU.I h
  have uw : ∀ k i s, k = 10 ∨ (57 ≤ k ∧ k ≤ 62) ∨ k = 43 ∨ k = 3 ∨ k = 27 ∨ k = 28 → wBa t k i s = false := fun k i s h => by simp [wBa, wEx, wUn, wSp, wPn, wCb, wRe, wNb, nb_d, nl_d]; omega
  have x := hX _ st1 st2
  have sU : stU (xL r.2) (xb C) = stU (xL C) (xb C) := stU_cg (fun i hi => eL i (by omega))
  refine ⟨⟨⟨?_, ?_, ?_, ?_⟩, ?_⟩, ⟨hS1, hS4⟩, ⟨fun k hk => ?_, fun k hk hk8 => ?_⟩, fun h hh => ?_, ⟨fun w hw => ?_, fun w hw hw4 => ?_⟩, ⟨hN, by omega⟩, ?_, ?_, fun b hb => ?_⟩
  · rw [e1]; exact (u _ _ _ (by simp [wBa, wEx, wUn, wSp, wPn, wCb, wRe, wNb, nb_d, nl_d])).trans c1
  · rw [e2]; exact (u _ _ _ (by simp [wBa, wEx, wUn, wSp, wPn, wCb, wRe, wNb, nb_d, nl_d])).trans c2
  · rw [e3]; exact (u _ _ _ (by simp [wBa, wEx, wUn, wSp, wPn, wCb, wRe, wNb, nb_d, nl_d])).trans c3
  · rw [e4]; exact h1
  · rw [e1, e2, e3, e4]; exact ⟨d1, d2, d3, hlt⟩
  · rw [e1] at hk
    rw [eT]
    obtain ⟨np, n1, n2, n3⟩ := l1 k hk
    exact ⟨np, n1, n2, n3.cg n1 (fun k' s hk' => u _ _ _ (uw _ _ _ (by omega))) (fun f j hf hj => rfl)⟩
  · rw [e1] at hk
    exact (u _ _ _ (uw _ _ _ (by omega))).trans (l2 k hk hk8)
  · rw [e2] at hh
    rw [eT, u _ _ _ (uw _ _ _ (by omega))]
    exact h43 h hh
  · rw [e3] at hw
    rw [eT]
    exact (w1 w hw).cg (by omega) (fun k s hk => u _ _ _ (uw _ _ _ (by omega))) (fun f a f1 f2 _ => rfl) (fun j hj => rfl) (fun f j f1 f2 hj => rfl) hm.2
  · rw [e3] at hw
    exact (w2 w hw hw4).un hU (fun s => uw _ _ _ (by omega))
  · rw [e4, stU, sU]
    exact x.1
  · rw [e4, stU, sU, List.length_append]
    omega
  · rw [e4] at hb
    by_cases e : b = xb C
    · rw [e, stU, sU]; exact x.2
    · rw [h15 b e, st3 b (by omega), stU_cg (Ls' := xL r.2) (Ls := xL C) (fun i hi => eL i (by omega))]
