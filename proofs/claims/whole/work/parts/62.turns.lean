/-! TURNS, I: tape, texts and gusts by hand -/
def wKF (ks : List Nat) (fs : List (Nat × Nat)) (k _i s : Nat) : Bool := ks.elem k || fs.any (fun q => Nat.beq q.1 k && Nat.beq q.2 s)
theorem wKF_k {ks : List Nat} {fs : List (Nat × Nat)} {k i s : Nat} (h : ks.elem k = true) : wKF ks fs k i s = true := by unfold wKF; rw [h]; rfl
theorem av_KF {c : Nat → Nat → Nat → Bool} {ks : List Nat} {fs : List (Nat × Nat)} (h1 : ∀ k ∈ ks, ∀ i s, c k i s = false) (h2 : ∀ q ∈ fs, ∀ i, c q.1 i q.2 = false) : Av c (wKF ks fs) := by
  intro k i s q
  cases e : wKF ks fs k i s with
  | false => rfl
  | true =>
    unfold wKF at e
    rcases Bool.or_eq_true_iff.mp e with e | e
    · rw [h1 k (List.mem_of_elem_eq_true e) i s] at q; cases q
    · obtain ⟨z, hz, e⟩ := List.any_eq_true.mp e
      obtain ⟨e1, e2⟩ := Bool.and_eq_true_iff.mp e
      have e1 := Nat.eq_of_beq_eq_true e1
      have e2 := Nat.eq_of_beq_eq_true e2
      subst e1; subst e2
      rw [h2 z hz i] at q; cases q
def Txt (M : Mem) (nt : Nat) : Prop := ∀ t, t < nt → (∃ nl nh nw nb Ls, TxC M t nl nh nw nb Ls) ∧ ∀ w, w < 4 → SlC M t w
theorem Txt.un {w : Nat → Nat → Nat → Bool} {M M' : Mem} {nt : Nat} (h : Txt M nt) (hU : Un w M M') (h1 : Av cTx w) (h2 : ∀ x, Av (cSl (x + 2)) w) : Txt M' nt := fun t ht => by
  obtain ⟨⟨nl, nh, nw, nb, Ls, b1⟩, b2⟩ := h t ht
  exact ⟨⟨nl, nh, nw, nb, Ls, b1.un hU h1⟩, fun w' hw' => (b2 w' hw').un hU (h2 _) (pg_av hU h1 t)⟩
theorem t_back (Ω : Om) (M : Mem) (n : Int32) (h : Inv M) : Turn Ω tyI m_WH_back m_MD_back [vI n] M := by
  obtain ⟨nt, o, a1, a2, a3, ⟨m, hm, b1, b2, b3⟩, a5, a6, a7, a8, a9, a10⟩ := id h
  by_cases c : n < 0 ∨ nI m < n
  · refine ⟨fun r M1 => r = some (vI (-1)) ∧ M1 = M, c_WH_back Ω M n _ (fun _ => ⟨rfl, rfl⟩) (fun z1 z2 => ?_), ?_⟩
    · rw [b1] at z2
      rcases c with c | c
      · exact absurd c z1
      · exact absurd z2 (Int32.not_le.mpr c)
    · rintro r M1 ⟨rfl, rfl⟩
      refine ⟨⟨_, rfl⟩, fun _ => rfl, c_MD_back Ω M1 n _ (fun _ => ⟨rfl, h, fun _ => rfl⟩) (fun z1 z2 => ?_)⟩
      rw [b2] at z2
      rcases c with c | c
      · exact absurd c z1
      · exact absurd z2 (Int32.not_le.mpr c)
  · have c1 : ¬ n < 0 := fun q => c (Or.inl q)
    have c2 : ¬ nI m < n := fun q => c (Or.inr q)
    obtain ⟨j, hj, rfl⟩ := nI_of c1
    have hjm : j ≤ m := by
      rw [nI_ltI (by omega) hj] at c2; omega
    refine ⟨fun r M1 => r = some (vI (nI (m - j))) ∧ M1 = sI M 11 0 1 (nI (m - j)), c_WH_back Ω M _ _ (fun q => ?_) (fun z1 z2 => ?_), ?_⟩
    · rw [b1] at q; exact absurd q c
    · rw [b1, pk_sub hjm]; exact ⟨rfl, rfl⟩
    · rintro r M1 ⟨rfl, rfl⟩
      refine ⟨⟨_, rfl⟩, fun _ => rfl, c_MD_back Ω _ _ _ (fun q => ?_) (fun z1 z2 => ?_)⟩
      · rw [show mI (sI M 11 0 1 (nI (m - j))) 12 0 2 = nI m from b2] at q
        exact absurd q c
      · rw [show mI (sI M 11 0 1 (nI (m - j))) 12 0 2 = nI m from b2, pk_sub hjm]
        have hU : Un (wKF [] [(11, 1), (12, 2)]) M (sI (sI M 11 0 1 (nI (m - j))) 12 0 2 (nI (m - j))) := (Un.rfl.pI rfl).pI rfl
        refine ⟨rfl, ⟨nt, o, a1.un hU rfl rfl, a2.un hU rfl rfl, a3, ⟨m - j, by omega, ?_, ?_, fun i hi => b3 i (by omega)⟩, a5.un hU (fun _ => rfl) (fun _ => rfl), Txt.un a6 hU (av_KF (by simp) (by simp; exact ⟨fun _ => rfl, fun _ => rfl⟩)) (fun x => av_KF (by simp) (by simp; exact ⟨fun _ => rfl, fun _ => rfl⟩)), a7.un hU (fun _ => rfl) (fun _ => rfl) (fun _ => rfl), a8.un hU (fun _ => rfl) (fun _ => rfl), a9.un hU rfl rfl (fun k s hk => ?_), a10.un hU (fun _ => rfl) (fun _ => rfl) (fun _ => rfl) (fun _ => rfl) (fun _ => rfl)⟩, fun _ => rfl⟩
        · rw [mI_sI, if_neg (fun q => absurd q.1 (by decide)), mI_sI, if_pos ⟨rfl, rfl, rfl⟩]
        · rw [mI_sI, if_pos ⟨rfl, rfl, rfl⟩]
        · simp [wKF, nb_d]; omega
theorem t_place (Ω : Om) (M : Mem) (h : Inv M) : Turn Ω tyI m_WH_place m_MD_place [] M := by
  obtain ⟨nt, o, a1, a2, a3, -⟩ := id h
  refine ⟨fun r M1 => r = some (vI (mI M 11 0 2)) ∧ M1 = M, c_WH_place Ω M _ ⟨rfl, rfl⟩, ?_⟩
  rintro r M1 ⟨rfl, rfl⟩
  exact ⟨⟨_, rfl⟩, fun _ => rfl, c_MD_place Ω M1 _ ⟨by rw [a3], h, fun _ => rfl⟩⟩
/-- what changes nothing but these cells keeps the rest -/
theorem Inv.text {ks : List Nat} {fs : List (Nat × Nat)} {M M' : Mem} {nt : Nat} (a6 : Txt M nt) (hU : Un (wKF ks fs) M M') (h1 : ∀ k ∈ ks, ∀ i s, cTx k i s = false ∧ ∀ x, cSl (x + 2) k i s = false) (h2 : ∀ q ∈ fs, ∀ i, cTx q.1 i q.2 = false ∧ ∀ x, cSl (x + 2) q.1 i q.2 = false) : Txt M' nt :=
  Txt.un a6 hU (av_KF (fun k hk i s => (h1 k hk i s).1) (fun q hq i => (h2 q hq i).1)) (fun x => av_KF (fun k hk i s => (h1 k hk i s).2 x) (fun q hq i => (h2 q hq i).2 x))
theorem t_use (Ω : Om) (M : Mem) (x : Int32) (h : Inv M) : Turn Ω tyI m_WH_use m_MD_use [vI x] M := by
  obtain ⟨nt, o, ⟨n4, e1, e2, e3⟩, ⟨-, f1, f2, -⟩, a3, a4, a5, a6, a7, a8, a9, a10⟩ := id h
  rcases nI_cases x (n := nt) (by omega) with ⟨t, ht, rfl⟩ | hno
  · refine ⟨fun r M1 => r = some (vI 1) ∧ M1 = sI M 11 0 5 (nI t), ?_, ?_⟩
    · refine call_go (hJL rfl) (Nat.le_of_ble_eq_true rfl) (go_wp ok_WH_use [] 250 _ _ _ _ _ _ ?_)
      conv => whnf
      refine cl_use (fun K h => c_textOf1 Ω M nt t K n4 e1 ht h) trivial ?_
      exact ⟨Or.inr rfl, rfl, rfl⟩
    · rintro r M1 ⟨rfl, rfl⟩
      refine ⟨⟨_, rfl⟩, fun _ => rfl, ?_⟩
      refine call_go (hJL rfl) (Nat.le_of_ble_eq_true rfl) (go_wp ok_MD_use [] 250 _ _ _ _ _ _ ?_)
      conv => whnf
      rw [show mI (sI M 11 0 5 (nI t)) 12 0 18 = nI nt from f1]
      refine cl_use (fun K h => c_MD_in Ω _ (nI t) 0 (nI nt - 1) K h) trivial ?_
      rw [inR_y (by omega) ht]
      refine And.intro (fun _ => ?_) (fun a => absurd a (by decide))
      have hU : Un (wKF [] [(11, 5), (12, 19)]) M (sI (sI M 11 0 5 (nI t)) 12 0 19 (nI t)) := (Un.rfl.pI rfl).pI rfl
      refine ⟨Or.inr rfl, rfl, ⟨nt, some t, ⟨n4, e1, ?_, fun t' q => by cases q; exact ht⟩, ⟨n4, f1, ?_, fun t' q => by cases q; exact ht⟩, a3, a4.un hU rfl rfl (fun _ => rfl) (fun _ => rfl), a5.un hU (fun _ => rfl) (fun _ => rfl), Inv.text a6 hU (by simp) (by simp; exact ⟨fun _ => ⟨rfl, fun _ => rfl⟩, fun _ => ⟨rfl, fun _ => rfl⟩⟩), a7.un hU (fun _ => rfl) (fun _ => rfl) (fun _ => rfl), a8.un hU (fun _ => rfl) (fun _ => rfl), a9.un hU rfl rfl (fun k s hk => ?_), a10.un hU (fun _ => rfl) (fun _ => rfl) (fun _ => rfl) (fun _ => rfl) (fun _ => rfl)⟩, fun _ => rfl⟩
      · rw [mI_sI, if_neg (fun q => absurd q.1 (by decide)), mI_sI, if_pos ⟨rfl, rfl, rfl⟩]; rfl
      · rw [mI_sI, if_pos ⟨rfl, rfl, rfl⟩]; rfl
      · simp [wKF, nb_d]; omega
  · refine ⟨fun r M1 => r = some (vI 0) ∧ M1 = M, ?_, ?_⟩
    · refine call_go (hJL rfl) (Nat.le_of_ble_eq_true rfl) (go_wp ok_WH_use [] 250 _ _ _ _ _ _ ?_)
      conv => whnf
      refine cl_use (fun K h => c_textOf0 Ω M nt x K n4 e1 hno h) trivial ?_
      exact ⟨Or.inl rfl, rfl, rfl⟩
    · rintro r M1 ⟨rfl, rfl⟩
      refine ⟨⟨_, rfl⟩, fun _ => rfl, ?_⟩
      refine call_go (hJL rfl) (Nat.le_of_ble_eq_true rfl) (go_wp ok_MD_use [] 250 _ _ _ _ _ _ ?_)
      conv => whnf
      rw [f1]
      refine cl_use (fun K h => c_MD_in Ω _ x 0 (nI nt - 1) K h) trivial ?_
      rw [inR_n (by omega) hno]
      refine And.intro (fun a => absurd rfl a) (fun _ => ?_)
      exact ⟨Or.inl rfl, rfl, h, fun _ => rfl⟩
theorem t_gust (Ω : Om) (M : Mem) (x g : Int32) (h : Inv M) : Turn Ω tyI m_WH_gust m_MD_gust [vI x, vI g] M := by
  obtain ⟨nt, o, a1, a2, a3, a4, a5, a6, a7, a8, a9, a10⟩ := id h
  by_cases c : (∃ i, i < 10 ∧ x = nI i) ∧ inR (-30) 30 g = true
  · obtain ⟨⟨i, hi, rfl⟩, hg⟩ := c
    obtain ⟨g1, g2⟩ := inR_t.mp hg
    refine ⟨fun r M1 => r = some (vI 1) ∧ M1 = sI M 65 0 i g, ?_, ?_⟩
    · refine call_go (hJL rfl) (Nat.le_of_ble_eq_true rfl) (go_wp ok_WH_gust [] 250 _ _ _ _ _ _ ?_)
      refine And.intro (fun a => absurd a (nI_pos (by omega))) (fun _ => And.intro (fun a => absurd a (nI_ge (b := 10) (by omega) (by decide))) (fun _ => And.intro (fun a => absurd a (Int32.not_lt.mpr g1)) (fun _ => And.intro (fun _ => ?_) (fun a => absurd g2 a))))
      conv => whnf
      refine And.intro (vp_in_nI (by omega) (by decide)) ?_
      rw [nI_clamp (by omega)]
      exact ⟨Or.inr rfl, rfl, rfl⟩
    · rintro r M1 ⟨rfl, rfl⟩
      refine ⟨⟨_, rfl⟩, fun _ => rfl, ?_⟩
      refine call_go (hJL rfl) (Nat.le_of_ble_eq_true rfl) (go_wp ok_MD_gust [] 250 _ _ _ _ _ _ ?_)
      conv => whnf
      refine cl_use (fun K h => c_MD_in Ω _ (nI i) 0 9 K h) trivial ?_
      rw [show inR 0 9 (nI i) = true from inR_y (n := 10) (by omega) hi]
      refine And.intro (fun a => absurd a (by decide)) (fun _ => ?_)
      conv => whnf
      refine cl_use (fun K h => c_MD_isSlant Ω _ g K h) trivial ?_
      rw [hg]
      refine And.intro (fun _ => ?_) (fun a => absurd a (by decide))
      conv => whnf
      refine And.intro (vp_in_nI (by omega) (by decide)) ?_
      rw [nI_clamp (by omega)]
      have hU : Un (wKF [65, 112] []) M (sI (sI M 65 0 i g) 112 0 i g) := (Un.rfl.pI rfl).pI rfl
      refine ⟨Or.inr rfl, rfl, ⟨nt, o, a1.un hU rfl rfl, a2.un hU rfl rfl, a3, a4.un hU rfl rfl (fun _ => rfl) (fun _ => rfl), fun j hj => ?_, Inv.text a6 hU (by simp; exact ⟨fun _ _ => ⟨rfl, fun _ => rfl⟩, fun _ _ => ⟨rfl, fun _ => rfl⟩⟩) (by simp), a7.un hU (fun _ => rfl) (fun _ => rfl) (fun _ => rfl), a8.un hU (fun _ => rfl) (fun _ => rfl), a9.un hU rfl rfl (fun k s hk => ?_), a10.un hU (fun _ => rfl) (fun _ => rfl) (fun _ => rfl) (fun _ => rfl) (fun _ => rfl)⟩, fun _ => rfl⟩
      · rw [mI_sI, if_neg (fun q => absurd q.1 (by decide)), mI_sI, mI_sI]
        by_cases e : j = i
        · rw [if_pos ⟨rfl, rfl, e⟩, if_pos ⟨rfl, rfl, e⟩]
          rw [Int32.le_iff_toInt_le] at g1 g2
          exact ⟨rfl, g1, g2⟩
        · rw [if_neg (fun q => e q.2.2), if_neg (fun q => e q.2.2), mI_sI, if_neg (fun q => absurd q.1 (by decide))]
          exact a5 j hj
      · simp [wKF, nb_d]; omega
  · refine ⟨fun r M1 => r = some (vI 0) ∧ M1 = M, ?_, ?_⟩
    · refine call_go (hJL rfl) (Nat.le_of_ble_eq_true rfl) (go_wp ok_WH_gust [] 250 _ _ _ _ _ _ ?_)
      refine And.intro (fun _ => ?_) (fun z1 => And.intro (fun _ => ?_) (fun z2 => And.intro (fun _ => ?_) (fun z3 => And.intro (fun z4 => ?_) (fun _ => ?_))))
      · exact ⟨Or.inl rfl, rfl, rfl⟩
      · exact ⟨Or.inl rfl, rfl, rfl⟩
      · exact ⟨Or.inl rfl, rfl, rfl⟩
      · refine absurd ⟨?_, inR_t.mpr ⟨Int32.not_lt.mp z3, z4⟩⟩ c
        rcases pk_ix x (n := 10) (by decide) with q | q | q
        · exact absurd q z1
        · exact absurd q z2
        · exact q
      · exact ⟨Or.inl rfl, rfl, rfl⟩
    · rintro r M1 ⟨rfl, rfl⟩
      refine ⟨⟨_, rfl⟩, fun _ => rfl, ?_⟩
      refine call_go (hJL rfl) (Nat.le_of_ble_eq_true rfl) (go_wp ok_MD_gust [] 250 _ _ _ _ _ _ ?_)
      conv => whnf
      refine cl_use (fun K h => c_MD_in Ω _ x 0 9 K h) trivial ?_
      refine br_bz (fun q1 => ?_) (fun q1 => ?_)
      · exact ⟨Or.inl rfl, rfl, h, fun _ => rfl⟩
      · conv => whnf
        refine cl_use (fun K h => c_MD_isSlant Ω _ g K h) trivial ?_
        refine br_bn (fun q2 => ?_) (fun q2 => ?_)
        · refine absurd ⟨?_, q2⟩ c
          rcases nI_cases x (n := 10) (by decide) with q | q
          · exact q
          · rw [show inR 0 9 x = false from inR_n (n := 10) (by decide) q] at q1; cases q1
        · exact ⟨Or.inl rfl, rfl, h, fun _ => rfl⟩
