/-! READ: the new text, both sides -/
theorem stU_pre {Ls : Nat → List Lt} : ∀ {nb b : Nat}, b < nb → ∃ R, stU Ls nb = stU Ls b ++ (BrC (Ls b) ++ R) := by
  intro nb
  induction nb with
  | zero => intro b h; exact absurd h (Nat.not_lt_zero _)
  | succ nb ih =>
    intro b h
    by_cases e : b = nb
    · rw [e]
      exact ⟨[], by rw [List.append_nil]; rfl⟩
    · obtain ⟨R, hR⟩ := ih (show b < nb by omega)
      refine ⟨R ++ BrC (Ls nb), ?_⟩
      rw [stU, hR, List.append_assoc, List.append_assoc]
theorem pg_fi {M M' : Mem} {p f a : Nat} (hU : Un (wFi p) M M') (h1 : 74 ≤ f) (h2 : f ≤ 108) (h3 : ¬ f = 83) : pg M' p f a = mI M f 0 (szf f * p + a) := by
  rw [← pgI (M := M') (p := p) (f := f) (a := a) (by rw [Nat.ble_eq.mpr h1, Nat.ble_eq.mpr h2]; rfl) rfl]
  exact hU.I (by simp [wFi, nb_d]; omega)
set_option maxHeartbeats 1000000 in
theorem TxC.new {M1 M5 M2 : Mem} {t : Nat} {C : Cn} {s : Ps} (ht : t < 4) (hC : CtC M1 t C s) (hF : ClrF M1 t) (hM : CtM M5 t C s) (hG : CnG C) (hl : s.2.2 = none) (hU : Un (wFi t) M5 M2) (h83 : ∀ j, j < 4 → mI M2 83 0 (4 * t + j) = 0)
    (hc : ∀ k i s, oCl t k i s → mI M2 k i s = mI M1 k i s) (h5 : s.1 ≤ 500) : TxC M2 t (xl C) (xh C) (xw C) (xb C) (xL C) := by
  obtain ⟨⟨⟨c1, c2, c3, c4⟩, -⟩, -, ⟨l1, -⟩, ch, ⟨cw, -⟩, -, ⟨st1, -, st3⟩⟩ := hC
  obtain ⟨-, ⟨m1, m2, m3, m4⟩, -, mP, mN, lc, cc, ⟨k1, k2⟩, -, -, mB⟩ := hM
  obtain ⟨gc, gl, gh, gw, -⟩ := hG
  obtain ⟨mQ, -⟩ := mN hl
  -- the page is what was told
  have ag : ∀ f a, (pgf f = true ∨ nmf f = true) → ¬ f = 83 → a < szf f → pg M2 t f a = xT C f a := fun f a hf h3 ha => by
    have hb : 74 ≤ f ∧ f ≤ 108 := by
      rcases hf with q | q
      · have := pgf_ge q; omega
      · have := nmf_ge q; omega
    rw [pg_fi hU hb.1 hb.2 h3]
    rcases hf with q | q
    · exact mP f a q ha
    · exact mQ f a q ha
  have z83 : ∀ h, h < 4 → pg M2 t 83 h = 0 := fun h hh => by
    rw [← pgI (M := M2) (p := t) (f := 83) (a := h) rfl rfl]
    exact h83 h hh
  have ct : ∀ f, f = 74 ∨ f = 80 ∨ f = 84 ∨ f = 97 → pg M2 t f 0 = mI M5 f 0 t := fun f hf => by
    rcases hf with rfl | rfl | rfl | rfl <;> (rw [pg_fi hU (by decide) (by decide) (by decide)]; show mI M5 _ 0 (1 * t + 0) = _; rw [Nat.one_mul, Nat.add_zero])
  have a77 : ∀ k, k < 8 → pg M2 t 77 k = xT C 77 k := fun k hk => ag 77 k (Or.inl rfl) (by decide) hk
  have a78 : ∀ k, k < 64 → pg M2 t 78 k = xT C 78 k := fun k hk => ag 78 k (Or.inl rfl) (by decide) hk
  have a79 : ∀ k, k < 64 → pg M2 t 79 k = xT C 79 k := fun k hk => ag 79 k (Or.inl rfl) (by decide) hk
  have a82 : ∀ k, k < 4 → pg M2 t 82 k = xT C 82 k := fun k hk => ag 82 k (Or.inl rfl) (by decide) hk
  have a86 : ∀ k, k < 4 → pg M2 t 86 k = xT C 86 k := fun k hk => ag 86 k (Or.inl rfl) (by decide) hk
  have a87 : ∀ k, k < 4 → pg M2 t 87 k = xT C 87 k := fun k hk => ag 87 k (Or.inl rfl) (by decide) hk
  have a88 : ∀ k, k < 4 → pg M2 t 88 k = xT C 88 k := fun k hk => ag 88 k (Or.inl rfl) (by decide) hk
  have a89 : ∀ k, k < 4 → pg M2 t 89 k = xT C 89 k := fun k hk => ag 89 k (Or.inl rfl) (by decide) hk
  have a90 : ∀ k, k < 4 → pg M2 t 90 k = xT C 90 k := fun k hk => ag 90 k (Or.inl rfl) (by decide) hk
  have a91 : ∀ k, k < 16 → pg M2 t 91 k = xT C 91 k := fun k hk => ag 91 k (Or.inl rfl) (by decide) hk
  have a92 : ∀ k, k < 40 → pg M2 t 92 k = xT C 92 k := fun k hk => ag 92 k (Or.inl rfl) (by decide) hk
  have a93 : ∀ k, k < 40 → pg M2 t 93 k = xT C 93 k := fun k hk => ag 93 k (Or.inr rfl) (by decide) hk
  have a94 : ∀ k, k < 40 → pg M2 t 94 k = xT C 94 k := fun k hk => ag 94 k (Or.inr rfl) (by decide) hk
  have a95 : ∀ k, k < 40 → pg M2 t 95 k = xT C 95 k := fun k hk => ag 95 k (Or.inl rfl) (by decide) hk
  have a96 : ∀ k, k < 40 → pg M2 t 96 k = xT C 96 k := fun k hk => ag 96 k (Or.inr rfl) (by decide) hk
  generalize hTe : pg M2 t = T at ag z83 ct a77 a78 a79 a82 a86 a87 a88 a89 a90 a91 a92 a93 a94 a95 a96
  have hlw : ∀ k, k < xl C → LwOK T k := fun k hk => (gl k hk).cq (a77 k (by omega)) (fun f j hf hj => by
    rcases hf with rfl | rfl
    · exact a78 _ (by omega)
    · exact a79 _ (by omega))
  have hwn : ∀ w, w < xw C → ∃ m, 1 ≤ m ∧ m ≤ 10 ∧ T 86 w = nI m ∧ wN T w = m ∧ ∀ i, i < m → SqG (xT C) (10 * w + i) (xl C) (xh C) := fun w hw => by
    obtain ⟨_, m, g1, g2, g3, g4⟩ := gw w hw
    have e : T 86 w = nI m := (a86 w (by omega)).trans g3
    exact ⟨m, g1, g2, e, by unfold wN; rw [e, nI_clamp (by omega)], g4⟩
  have hO : TxOK T (xl C) (xh C) (xw C) (xb C) := by
    refine ⟨(ct 74 (by omega)).trans m1, (ct 80 (by omega)).trans m2, (ct 84 (by omega)).trans m3, (ct 97 (by omega)).trans m4, gc, hlw, fun h hh => ?_, fun h hh => ?_, fun w hw => ?_⟩
    · rw [a82 h (by omega)]; exact gh h hh
    · rw [z83 h hh]; exact ⟨by decide, by decide⟩
    · obtain ⟨m, w1', w2', w3', w4', w5'⟩ := hwn w hw
      have hw4 : w < 4 := by omega
      refine ⟨⟨⟨m, w3', w1', w2', fun i hi => ?_⟩, ?_⟩, fun i hi k hk hq => ?_⟩
      · obtain ⟨g1, ⟨k, g2, g3⟩, ⟨k', g4, g5⟩, g6, g7⟩ := w5' i hi
        unfold StOK
        rw [a92 _ (show 10 * w + i < 40 by omega), a93 _ (show 10 * w + i < 40 by omega), a94 _ (show 10 * w + i < 40 by omega), a95 _ (show 10 * w + i < 40 by omega), a96 _ (show 10 * w + i < 40 by omega)]
        refine ⟨g1, ⟨k, by omega, g3, hlw k g2⟩, ⟨k', by omega, g5, hlw k' g4⟩, g6, ?_⟩
        rcases g7 with q | ⟨h, q1, q2⟩
        · exact Or.inl q
        · exact Or.inr ⟨h, by omega, q2⟩
      · obtain ⟨g, _⟩ := gw w hw
        obtain ⟨g1, g2, g3, g4, g5⟩ := g
        rw [a87 w hw4, a88 w hw4, a89 w hw4, a90 w hw4]
        refine ⟨g1, g2, g3, g4, fun q j hj => ?_⟩
        rw [a91 _ (show 4 * w + j < 16 by omega)]
        exact g5 q j hj
      · rw [w4'] at hi
        obtain ⟨-, ⟨k1', g2, g3⟩, ⟨k2', g4, g5⟩, -, -⟩ := w5' i hi
        rw [a93 _ (show 10 * w + i < 40 by omega), a94 _ (show 10 * w + i < 40 by omega), g3, g5] at hq
        rcases hq with q | q
        · rw [nI_eq (by omega) (by omega)] at q; omega
        · rw [nI_eq (by omega) (by omega)] at q; omega
  have hT : ClTx M2 t T (xl C) (xh C) (xw C) (xb C) := by
    refine ⟨(hc 7 t 1 (by unfold oCl; omega)).trans c1, (hc 7 t 4 (by unfold oCl; omega)).trans c2, (hc 7 t 6 (by unfold oCl; omega)).trans c3, (hc 0 t 4 (by unfold oCl; omega)).trans c4, fun k hk => ?_, fun h hh => ?_, fun h hh => ?_, fun w hw => ?_⟩
    · obtain ⟨np, p1, p2, p3, p4⟩ := l1 k hk
      have e : T 77 k = nI np := (a77 k (by omega)).trans p2
      refine ⟨?_, fun j hj => ?_⟩
      · rw [hc 3 _ 2 (by unfold oCl; omega), e]; exact p3
      · rw [e, nI_clamp (by omega)] at hj
        rw [hc 27 _ j (by unfold oCl; omega), hc 28 _ j (by unfold oCl; omega), a78 _ (by omega), a79 _ (by omega)]
        exact p4 j hj
    · rw [hc 43 t h (by unfold oCl; omega), a82 h (by omega)]; exact ch h hh
    · rw [hc 44 t h (by unfold oCl; omega), z83 h hh]; exact hF.2 h hh
    · obtain ⟨m, w1', w2', w3', w4', w5'⟩ := hwn w hw
      have hw4 : w < 4 := by omega
      obtain ⟨⟨ns, s1, s2, s3, s4⟩, s5, s6, s7, s8, s9⟩ := cw w hw
      have en : ns = m := (nI_eq (by omega) (by omega)).mp (s3.symm.trans ((a86 w hw4).symm.trans w3'))
      subst en
      unfold ClW
      rw [w4', hc 10 _ 0 (by unfold oCl; omega), hc 10 _ 6 (by unfold oCl; omega), hc 10 _ 7 (by unfold oCl; omega), hc 10 _ 8 (by unfold oCl; omega), hc 10 _ 10 (by unfold oCl; omega), w3', a87 w hw4, a88 w hw4, a89 w hw4, a90 w hw4]
      refine ⟨s4.1, s5, s6, s7, fun i hi => ?_, s8, fun q j hj => ?_⟩
      · obtain ⟨y1, y2, y3⟩ := s4.2 i hi
        obtain ⟨y4, y5, y6⟩ := y3 hl
        rw [hc 57 _ i (by unfold oCl; omega), hc 58 _ i (by unfold oCl; omega), hc 59 _ i (by unfold oCl; omega), hc 60 _ i (by unfold oCl; omega), hc 61 _ i (by unfold oCl; omega), a92 _ (show 10 * w + i < 40 by omega), a93 _ (show 10 * w + i < 40 by omega), a94 _ (show 10 * w + i < 40 by omega), a95 _ (show 10 * w + i < 40 by omega), a96 _ (show 10 * w + i < 40 by omega)]
        exact ⟨y1, y4, y5, y2, y6⟩
      · rw [hc 62 _ j (by unfold oCl; omega), a91 _ (show 4 * w + j < 16 by omega)]
        exact s9 q j hj
  refine ⟨by rw [hTe]; exact hO, by rw [hTe]; exact hT, fun b hb => ⟨(mB b hb).1, ?_, ?_⟩⟩
  · obtain ⟨R, hR⟩ := stU_pre (Ls := xL C) hb
    obtain ⟨⟨_, x2⟩, x3⟩ := st1
    rw [hR] at x2 x3
    rw [List.length_append, List.length_append] at x2
    obtain ⟨_, x5⟩ := SpC.app.mp x3
    obtain ⟨x6, _⟩ := SpC.app.mp x5
    refine ⟨(stU (xL C) b).length, fun e => by rw [e]; rfl, fun b' hb' => ?_, ?_, by omega, ?_⟩
    · rw [hc 15 t b' (by unfold oCl; omega), st3 b' (by omega), hb']
    · rw [hc 15 t b (by unfold oCl; omega), st3 b hb, stU, List.length_append]
    · rw [Nat.zero_add] at x6
      exact x6.ot (fun s => hc 13 t s (by unfold oCl; omega)) (fun s => hc 14 t s (by unfold oCl; omega))
  · have hb8 : b < 8 := by omega
    have := (mB b hb).2.M ht hb8 (by omega) (by omega)
    exact this.un hU (fun k s h1 h2 => by simp [wFi, nb_d]; omega)
