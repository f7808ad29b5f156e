/-! TURNS, III: law, hinge, count -/
theorem c_textOfH (Ω : Om) (M : Mem) (nt : Nat) (o : Option Nat) (K : Ka) (h : HdC M nt o) (hK : K (some (vR (o.map (fun t => (7, t))))) M) : CallS Ω true m_WH_textOf [vR (some (11, 0)), vI (hI o)] M K := by
  cases o with
  | none => exact c_textOf0 Ω M nt (-1) K h.1 h.2.1 (fun t ht e => nI_nm1 (show t < 2 ^ 31 by have := h.1; omega) e.symm) hK
  | some t => exact c_textOf1 Ω M nt t K h.1 h.2.1 (h.2.2.2 t rfl) hK
set_option maxRecDepth 8000 in
theorem t_law (Ω : Om) (M : Mem) (k x : Int32) (h : Inv M) : Turn Ω tyI m_WH_law m_MD_law [vI k, vI x] M := by
  obtain ⟨nt, o, a1, a2, a3, a4, a5, a6, a7, a8, a9, a10⟩ := id h
  have hn4 := a1.1
  by_cases hc : ∃ t j, o = some t ∧ (∃ nl nh nw nb Ls, TxC M t nl nh nw nb Ls ∧ j < nl) ∧ k = nI j ∧ inR (-1000) 1000 x = true
  · obtain ⟨t, j, rfl, ⟨nl, nh, nw, nb, Ls, ⟨hO, hC, -⟩, hj⟩, rfl, hx⟩ := hc
    have ht := a1.2.2.2 t rfl
    obtain ⟨hx1, hx2⟩ := inR_t.mp hx
    obtain ⟨q1, q2, q3, q4, ⟨q5, -⟩, q6, -⟩ := hO
    have hL := q6 j hj
    refine turn_pure h (some (vI (lwT (pg M t) j x.toInt64).toInt32)) ⟨_, rfl⟩ (fun K hK => ?_) (fun K hK => ?_)
    · refine call_go (hJL rfl) (Nat.le_of_ble_eq_true rfl) (go_wp ok_WH_law [] 250 _ _ _ _ _ _ ?_)
      conv => whnf
      rw [a1.2.2.1]
      refine cl_use (fun K h => c_textOfH Ω M nt (some t) K a1 h) trivial ?_
      conv => whnf
      refine And.intro (fun a => absurd a (nI_pos (by omega))) (fun _ => And.intro (fun a => ?_) (fun _ => And.intro (fun a => absurd a (Int32.not_lt.mpr hx1)) (fun _ => And.intro (fun _ => ?_) (fun a => absurd hx2 a))))
      · rw [hC.1, nI_leI (by omega) (by omega)] at a; omega
      conv => whnf
      refine cl_use (fun K h => c_lawValue Ω M t j (pg M t) x.toInt64 K (by omega) (hC.2.2.2.2.1 j hj) hL h) trivial ?_
      exact hK
    · refine call_go (hJL rfl) (Nat.le_of_ble_eq_true rfl) (go_wp ok_MD_law [] 250 _ _ _ _ _ _ ?_)
      conv => whnf
      rw [a2.2.2.1]
      refine And.intro (fun a => absurd a (nI_nm1 (by omega))) (fun _ => ?_)
      conv => whnf
      rw [a2.2.2.1, show hI (some t) = nI t from rfl]
      refine And.intro (vp_in_nI (by omega) (by decide)) ?_
      rw [nI_clamp (by omega), show mI M 74 0 t = nI nl from by have : pg M t 74 0 = mI M 74 0 (1 * t + 0) := rfl; rw [Nat.one_mul, Nat.add_zero] at this; rw [← this]; exact q1]
      refine cl_use (fun K h => c_MD_in Ω _ (nI j) 0 (nI nl - 1) K h) trivial ?_
      rw [inR_y (by omega) hj]
      refine And.intro (fun a => absurd a (by decide)) (fun _ => ?_)
      conv => whnf
      refine cl_use (fun K h => c_MD_in Ω _ x (-1000) 1000 K h) trivial ?_
      rw [hx]
      refine And.intro (fun _ => ?_) (fun a => absurd a (by decide))
      conv => whnf
      rw [a2.2.2.1, show (8 : Int32) = nI 8 from rfl, show hI (some t) = nI t from rfl, pk_mul, nI_add]
      refine cl_use (fun K h => c_valueOf Ω M (8 * t + j) _ _ _ x.toInt64 K hL.n.2 (by omega) ?_ (fun i hi => ?_) (fun i hi => ?_) h) trivial ?_
      · rw [← hL.n.1]; exact pgI rfl rfl
      · show _ = pg M t 78 (8 * j + i)
        exact pgI rfl (by show _ = 64 * t + _; omega)
      · show _ = pg M t 79 (8 * j + i)
        exact pgI rfl (by show _ = 64 * t + _; omega)
      exact hK
  · refine turn_pure h (some (vI (-1000000))) ⟨_, rfl⟩ (fun K hK => ?_) (fun K hK => ?_)
    · refine call_go (hJL rfl) (Nat.le_of_ble_eq_true rfl) (go_wp ok_WH_law [] 250 _ _ _ _ _ _ ?_)
      conv => whnf
      rw [a1.2.2.1]
      refine cl_use (fun K h => c_textOfH Ω M nt o K a1 h) trivial ?_
      cases o with
      | none => exact hK
      | some t =>
        obtain ⟨⟨nl, nh, nw, nb, Ls, hT⟩, -⟩ := a6 t (a1.2.2.2 t rfl)
        obtain ⟨hO, hC, -⟩ := id hT
        conv => whnf
        refine And.intro (fun _ => hK) (fun z1 => And.intro (fun _ => hK) (fun z2 => And.intro (fun _ => hK) (fun z3 => And.intro (fun z4 => ?_) (fun _ => hK))))
        rw [hC.1] at z2
        have := hO.2.2.2.2.1.1
        rcases pk_ix k (n := nl) (by omega) with q | q | ⟨j, hj, e⟩
        · exact absurd q z1
        · exact absurd q z2
        · exact absurd ⟨t, j, rfl, ⟨nl, nh, nw, nb, Ls, hT, hj⟩, e, inR_t.mpr ⟨Int32.not_lt.mp z3, z4⟩⟩ hc
    · refine call_go (hJL rfl) (Nat.le_of_ble_eq_true rfl) (go_wp ok_MD_law [] 250 _ _ _ _ _ _ ?_)
      conv => whnf
      rw [a2.2.2.1]
      cases o with
      | none => exact And.intro (fun _ => hK) (fun a => absurd rfl a)
      | some t =>
        have ht := a1.2.2.2 t rfl
        obtain ⟨⟨nl, nh, nw, nb, Ls, hT⟩, -⟩ := a6 t ht
        obtain ⟨hO, hC, -⟩ := id hT
        have := hO.2.2.2.2.1.1
        refine And.intro (fun _ => hK) (fun _ => ?_)
        conv => whnf
        rw [a2.2.2.1, show hI (some t) = nI t from rfl]
        refine And.intro (vp_in_nI (by omega) (by decide)) ?_
        rw [nI_clamp (by omega), show mI M 74 0 t = nI nl from by have : pg M t 74 0 = mI M 74 0 (1 * t + 0) := rfl; rw [Nat.one_mul, Nat.add_zero] at this; rw [← this]; exact hO.1]
        refine cl_use (fun K h => c_MD_in Ω _ k 0 (nI nl - 1) K h) trivial ?_
        refine br_bz (fun q1 => hK) (fun q1 => ?_)
        conv => whnf
        refine cl_use (fun K h => c_MD_in Ω _ x (-1000) 1000 K h) trivial ?_
        refine br_bn (fun q2 => ?_) (fun q2 => hK)
        rcases nI_cases k (n := nl) (by omega) with ⟨j, hj, e⟩ | q
        · exact absurd ⟨t, j, rfl, ⟨nl, nh, nw, nb, Ls, hT, hj⟩, e, q2⟩ hc
        · rw [inR_n (by omega) q] at q1; cases q1
theorem pg1 {M : Mem} {f p : Nat} (hf : (Nat.ble 74 f && Nat.ble f 108) = true) (h1 : szf f = 1) : mI M f 0 p = pg M p f 0 := pgI hf (by rw [h1]; omega)
set_option maxRecDepth 8000 in
theorem t_count (Ω : Om) (M : Mem) (x : Int32) (h : Inv M) : Turn Ω tyI m_WH_count m_MD_count [vI x] M := by
  obtain ⟨nt, o, a1, a2, a3, ⟨m, hm, b1, b2, b3⟩, a5, a6, a7, a8, ⟨nr, hr, d1, d2, d3⟩, a10⟩ := id h
  have hn4 := a1.1
  by_cases z0 : x = 0
  · subst z0
    refine turn_pure h (some (vI (nI nt))) ⟨_, rfl⟩ (fun K hK => ?_) (fun K hK => ?_)
    · refine call_go (hJL rfl) (Nat.le_of_ble_eq_true rfl) (go_wp ok_WH_count [] 250 _ _ _ _ _ _ ?_)
      conv => whnf
      rw [a1.2.2.1]
      refine cl_use (fun K h => c_textOfH Ω M nt o K a1 h) trivial ?_
      refine And.intro (fun _ => ?_) (fun a => absurd rfl a)
      conv => whnf
      rw [a1.2.1]
      exact hK
    · refine call_go (hJL rfl) (Nat.le_of_ble_eq_true rfl) (go_wp ok_MD_count [] 250 _ _ _ _ _ _ ?_)
      refine And.intro (fun _ => ?_) (fun a => absurd rfl a)
      conv => whnf
      rw [a2.2.1]
      exact hK
  by_cases z1 : x = 1
  · subst z1
    refine turn_pure h (some (vI (hI o))) ⟨_, rfl⟩ (fun K hK => ?_) (fun K hK => ?_)
    · refine call_go (hJL rfl) (Nat.le_of_ble_eq_true rfl) (go_wp ok_WH_count [] 250 _ _ _ _ _ _ ?_)
      conv => whnf
      rw [a1.2.2.1]
      refine cl_use (fun K h => c_textOfH Ω M nt o K a1 h) trivial ?_
      refine And.intro (fun a => absurd a (by decide)) (fun _ => And.intro (fun _ => ?_) (fun a => absurd rfl a))
      conv => whnf
      rw [a1.2.2.1]
      exact hK
    · refine call_go (hJL rfl) (Nat.le_of_ble_eq_true rfl) (go_wp ok_MD_count [] 250 _ _ _ _ _ _ ?_)
      refine And.intro (fun a => absurd a (by decide)) (fun _ => And.intro (fun _ => ?_) (fun a => absurd rfl a))
      conv => whnf
      rw [a2.2.2.1]
      exact hK
  by_cases z2 : x = 2
  · subst z2
    refine turn_pure h (some (vI (nI nr))) ⟨_, rfl⟩ (fun K hK => ?_) (fun K hK => ?_)
    · refine call_go (hJL rfl) (Nat.le_of_ble_eq_true rfl) (go_wp ok_WH_count [] 250 _ _ _ _ _ _ ?_)
      conv => whnf
      rw [a1.2.2.1]
      refine cl_use (fun K h => c_textOfH Ω M nt o K a1 h) trivial ?_
      refine And.intro (fun a => absurd a (by decide)) (fun _ => And.intro (fun a => absurd a (by decide)) (fun _ => And.intro (fun _ => ?_) (fun a => absurd rfl a)))
      conv => whnf
      rw [d1]
      exact hK
    · refine call_go (hJL rfl) (Nat.le_of_ble_eq_true rfl) (go_wp ok_MD_count [] 250 _ _ _ _ _ _ ?_)
      refine And.intro (fun a => absurd a (by decide)) (fun _ => And.intro (fun a => absurd a (by decide)) (fun _ => And.intro (fun _ => ?_) (fun a => absurd rfl a)))
      conv => whnf
      rw [d2]
      exact hK
  by_cases z7 : x = 7
  · subst z7
    refine turn_pure h (some (vI (nI m))) ⟨_, rfl⟩ (fun K hK => ?_) (fun K hK => ?_)
    · refine call_go (hJL rfl) (Nat.le_of_ble_eq_true rfl) (go_wp ok_WH_count [] 250 _ _ _ _ _ _ ?_)
      conv => whnf
      rw [a1.2.2.1]
      refine cl_use (fun K h => c_textOfH Ω M nt o K a1 h) trivial ?_
      refine And.intro (fun a => absurd a (by decide)) (fun _ => And.intro (fun a => absurd a (by decide)) (fun _ => And.intro (fun a => absurd a (by decide)) (fun _ => And.intro (fun a => absurd a (by decide)) (fun _ => And.intro (fun a => absurd a (by decide)) (fun _ => And.intro (fun a => absurd a (by decide)) (fun _ => And.intro (fun a => absurd a (by decide)) (fun _ => And.intro (fun _ => ?_) (fun a => absurd rfl a))))))))
      conv => whnf
      rw [b1]
      exact hK
    · refine call_go (hJL rfl) (Nat.le_of_ble_eq_true rfl) (go_wp ok_MD_count [] 250 _ _ _ _ _ _ ?_)
      refine And.intro (fun a => absurd a (by decide)) (fun _ => And.intro (fun a => absurd a (by decide)) (fun _ => And.intro (fun a => absurd a (by decide)) (fun _ => And.intro (fun a => absurd a (by decide)) (fun _ => And.intro (fun a => absurd a (by decide)) (fun _ => And.intro (fun a => absurd a (by decide)) (fun _ => And.intro (fun a => absurd a (by decide)) (fun _ => And.intro (fun _ => ?_) (fun a => absurd rfl a))))))))
      conv => whnf
      rw [b2]
      exact hK
  cases o with
  | none =>
    refine turn_pure h (some (vI (-1))) ⟨_, rfl⟩ (fun K hK => ?_) (fun K hK => ?_)
    · refine call_go (hJL rfl) (Nat.le_of_ble_eq_true rfl) (go_wp ok_WH_count [] 250 _ _ _ _ _ _ ?_)
      conv => whnf
      rw [a1.2.2.1]
      refine cl_use (fun K h => c_textOfH Ω M nt none K a1 h) trivial ?_
      refine And.intro (fun e => absurd e z0) (fun _ => And.intro (fun e => absurd e z1) (fun _ => And.intro (fun e => absurd e z2) (fun _ => And.intro (fun _ => hK) (fun _ => And.intro (fun _ => hK) (fun _ => And.intro (fun _ => hK) (fun _ => And.intro (fun _ => hK) (fun _ => And.intro (fun e => absurd e z7) (fun _ => hK))))))))
    · refine call_go (hJL rfl) (Nat.le_of_ble_eq_true rfl) (go_wp ok_MD_count [] 250 _ _ _ _ _ _ ?_)
      have g : mI M 12 0 19 = -1 := a2.2.2.1
      refine And.intro (fun e => absurd e z0) (fun _ => And.intro (fun e => absurd e z1) (fun _ => And.intro (fun e => absurd e z2) (fun _ => And.intro (fun _ => ?_) (fun _ => And.intro (fun _ => ?_) (fun _ => And.intro (fun _ => ?_) (fun _ => And.intro (fun _ => ?_) (fun _ => And.intro (fun e => absurd e z7) (fun _ => ?_))))))))
      · exact And.intro (fun e => absurd g e) (fun _ => hK)
      · exact And.intro (fun e => absurd g e) (fun _ => hK)
      · exact And.intro (fun e => absurd g e) (fun _ => hK)
      · exact And.intro (fun e => absurd g e) (fun _ => hK)
      · conv => whnf
        refine cl_use (fun K h => c_MD_rowN Ω M _ K g h) trivial ?_
        exact And.intro (fun e => absurd rfl e) (fun _ => hK)
  | some t =>
    have ht := a1.2.2.2 t rfl
    obtain ⟨⟨nl, nh, nw, nb, Ls, hO, hC, -⟩, -⟩ := a6 t ht
    obtain ⟨q1, q2, q3, q4, ⟨l1, l2, l3, l4⟩, -, -, -, qw⟩ := hO
    have g : mI M 12 0 19 = nI t := a2.2.2.1
    have gn : ¬ mI M 12 0 19 = -1 := by rw [g]; exact nI_nm1 (by omega)
    by_cases z3 : x = 3
    · subst z3
      refine turn_pure h (some (vI (nI nl))) ⟨_, rfl⟩ (fun K hK => ?_) (fun K hK => ?_)
      · refine call_go (hJL rfl) (Nat.le_of_ble_eq_true rfl) (go_wp ok_WH_count [] 250 _ _ _ _ _ _ ?_)
        conv => whnf
        rw [a1.2.2.1]
        refine cl_use (fun K h => c_textOfH Ω M nt (some t) K a1 h) trivial ?_
        refine And.intro (fun a => absurd a (by decide)) (fun _ => And.intro (fun a => absurd a (by decide)) (fun _ => And.intro (fun a => absurd a (by decide)) (fun _ => And.intro (fun _ => ?_) (fun a => absurd rfl a))))
        conv => whnf
        refine cl_use (r := some (vI (nI nl))) (M1 := M) (fun K h => ?_) trivial ?_
        · refine call_go (hJL rfl) (Nat.le_of_ble_eq_true rfl) (go_wp ok_Text_countOf [] 250 _ _ _ _ _ _ ?_)
          refine And.intro (fun _ => ?_) (fun a => absurd rfl a)
          conv => whnf
          rw [hC.1]
          exact h
        · exact hK
      · refine call_go (hJL rfl) (Nat.le_of_ble_eq_true rfl) (go_wp ok_MD_count [] 250 _ _ _ _ _ _ ?_)
        refine And.intro (fun a => absurd a (by decide)) (fun _ => And.intro (fun a => absurd a (by decide)) (fun _ => And.intro (fun a => absurd a (by decide)) (fun _ => And.intro (fun _ => ?_) (fun a => absurd rfl a))))
        refine And.intro (fun _ => ?_) (fun e => absurd e gn)
        conv => whnf
        rw [g]
        refine And.intro (vp_in_nI (by omega) (by decide)) ?_
        rw [nI_clamp (by omega), pg1 (M := M) (f := 74) (p := t) rfl rfl, q1]
        exact hK
    by_cases z4 : x = 4
    · subst z4
      refine turn_pure h (some (vI (nI nh))) ⟨_, rfl⟩ (fun K hK => ?_) (fun K hK => ?_)
      · refine call_go (hJL rfl) (Nat.le_of_ble_eq_true rfl) (go_wp ok_WH_count [] 250 _ _ _ _ _ _ ?_)
        conv => whnf
        rw [a1.2.2.1]
        refine cl_use (fun K h => c_textOfH Ω M nt (some t) K a1 h) trivial ?_
        refine And.intro (fun a => absurd a (by decide)) (fun _ => And.intro (fun a => absurd a (by decide)) (fun _ => And.intro (fun a => absurd a (by decide)) (fun _ => And.intro (fun a => absurd a (by decide)) (fun _ => And.intro (fun _ => ?_) (fun a => absurd rfl a)))))
        conv => whnf
        refine cl_use (r := some (vI (nI nh))) (M1 := M) (fun K h => ?_) trivial ?_
        · refine call_go (hJL rfl) (Nat.le_of_ble_eq_true rfl) (go_wp ok_Text_countOf [] 250 _ _ _ _ _ _ ?_)
          refine And.intro (fun a => absurd a (by decide)) (fun _ => And.intro (fun _ => ?_) (fun a => absurd rfl a))
          conv => whnf
          rw [hC.2.1]
          exact h
        · exact hK
      · refine call_go (hJL rfl) (Nat.le_of_ble_eq_true rfl) (go_wp ok_MD_count [] 250 _ _ _ _ _ _ ?_)
        refine And.intro (fun a => absurd a (by decide)) (fun _ => And.intro (fun a => absurd a (by decide)) (fun _ => And.intro (fun a => absurd a (by decide)) (fun _ => And.intro (fun a => absurd a (by decide)) (fun _ => And.intro (fun _ => ?_) (fun a => absurd rfl a)))))
        refine And.intro (fun _ => ?_) (fun e => absurd e gn)
        conv => whnf
        rw [g]
        refine And.intro (vp_in_nI (by omega) (by decide)) ?_
        rw [nI_clamp (by omega), pg1 (M := M) (f := 80) (p := t) rfl rfl, q2]
        exact hK
    by_cases z5 : x = 5
    · subst z5
      refine turn_pure h (some (vI (nI nw))) ⟨_, rfl⟩ (fun K hK => ?_) (fun K hK => ?_)
      · refine call_go (hJL rfl) (Nat.le_of_ble_eq_true rfl) (go_wp ok_WH_count [] 250 _ _ _ _ _ _ ?_)
        conv => whnf
        rw [a1.2.2.1]
        refine cl_use (fun K h => c_textOfH Ω M nt (some t) K a1 h) trivial ?_
        refine And.intro (fun a => absurd a (by decide)) (fun _ => And.intro (fun a => absurd a (by decide)) (fun _ => And.intro (fun a => absurd a (by decide)) (fun _ => And.intro (fun a => absurd a (by decide)) (fun _ => And.intro (fun a => absurd a (by decide)) (fun _ => And.intro (fun _ => ?_) (fun a => absurd rfl a))))))
        conv => whnf
        refine cl_use (r := some (vI (nI nw))) (M1 := M) (fun K h => ?_) trivial ?_
        · refine call_go (hJL rfl) (Nat.le_of_ble_eq_true rfl) (go_wp ok_Text_countOf [] 250 _ _ _ _ _ _ ?_)
          refine And.intro (fun a => absurd a (by decide)) (fun _ => And.intro (fun a => absurd a (by decide)) (fun _ => And.intro (fun _ => ?_) (fun a => absurd rfl a)))
          conv => whnf
          rw [hC.2.2.1]
          exact h
        · exact hK
      · refine call_go (hJL rfl) (Nat.le_of_ble_eq_true rfl) (go_wp ok_MD_count [] 250 _ _ _ _ _ _ ?_)
        refine And.intro (fun a => absurd a (by decide)) (fun _ => And.intro (fun a => absurd a (by decide)) (fun _ => And.intro (fun a => absurd a (by decide)) (fun _ => And.intro (fun a => absurd a (by decide)) (fun _ => And.intro (fun a => absurd a (by decide)) (fun _ => And.intro (fun _ => ?_) (fun a => absurd rfl a))))))
        refine And.intro (fun _ => ?_) (fun e => absurd e gn)
        conv => whnf
        rw [g]
        refine And.intro (vp_in_nI (by omega) (by decide)) ?_
        rw [nI_clamp (by omega), pg1 (M := M) (f := 84) (p := t) rfl rfl, q3]
        exact hK
    by_cases z6 : x = 6
    · subst z6
      refine turn_pure h (some (vI (nI nb))) ⟨_, rfl⟩ (fun K hK => ?_) (fun K hK => ?_)
      · refine call_go (hJL rfl) (Nat.le_of_ble_eq_true rfl) (go_wp ok_WH_count [] 250 _ _ _ _ _ _ ?_)
        conv => whnf
        rw [a1.2.2.1]
        refine cl_use (fun K h => c_textOfH Ω M nt (some t) K a1 h) trivial ?_
        refine And.intro (fun a => absurd a (by decide)) (fun _ => And.intro (fun a => absurd a (by decide)) (fun _ => And.intro (fun a => absurd a (by decide)) (fun _ => And.intro (fun a => absurd a (by decide)) (fun _ => And.intro (fun a => absurd a (by decide)) (fun _ => And.intro (fun a => absurd a (by decide)) (fun _ => And.intro (fun _ => ?_) (fun a => absurd rfl a)))))))
        conv => whnf
        refine cl_use (r := some (vI (nI nb))) (M1 := M) (fun K h => ?_) trivial ?_
        · refine call_go (hJL rfl) (Nat.le_of_ble_eq_true rfl) (go_wp ok_Text_countOf [] 250 _ _ _ _ _ _ ?_)
          refine And.intro (fun a => absurd a (by decide)) (fun _ => And.intro (fun a => absurd a (by decide)) (fun _ => And.intro (fun a => absurd a (by decide)) (fun _ => And.intro (fun _ => ?_) (fun a => absurd rfl a))))
          conv => whnf
          rw [hC.2.2.2.1]
          exact h
        · exact hK
      · refine call_go (hJL rfl) (Nat.le_of_ble_eq_true rfl) (go_wp ok_MD_count [] 250 _ _ _ _ _ _ ?_)
        refine And.intro (fun a => absurd a (by decide)) (fun _ => And.intro (fun a => absurd a (by decide)) (fun _ => And.intro (fun a => absurd a (by decide)) (fun _ => And.intro (fun a => absurd a (by decide)) (fun _ => And.intro (fun a => absurd a (by decide)) (fun _ => And.intro (fun a => absurd a (by decide)) (fun _ => And.intro (fun _ => ?_) (fun a => absurd rfl a)))))))
        refine And.intro (fun _ => ?_) (fun e => absurd e gn)
        conv => whnf
        rw [g]
        refine And.intro (vp_in_nI (by omega) (by decide)) ?_
        rw [nI_clamp (by omega), pg1 (M := M) (f := 97) (p := t) rfl rfl, q4]
        exact hK
    rcases nI_cases (x - 10) (n := nw) (by omega) with ⟨w, hw, ew⟩ | hno
    · have ex : x = nI (w + 10) := by
        have : x = x - 10 + 10 := by grind
        rw [this, ew]; exact nI_add w 10
      have ec := (hC.2.2.2.2.2.2.2 w hw).1
      have en := (qw w hw).1.n.1
      refine turn_pure h (some (vI (pg M t 86 w))) ⟨_, rfl⟩ (fun K hK => ?_) (fun K hK => ?_)
      · refine call_go (hJL rfl) (Nat.le_of_ble_eq_true rfl) (go_wp ok_WH_count [] 250 _ _ _ _ _ _ ?_)
        conv => whnf
        rw [a1.2.2.1]
        refine cl_use (fun K h => c_textOfH Ω M nt (some t) K a1 h) trivial ?_
        refine And.intro (fun e => absurd e z0) (fun _ => And.intro (fun e => absurd e z1) (fun _ => And.intro (fun e => absurd e z2) (fun _ => And.intro (fun e => absurd e z3) (fun _ => And.intro (fun e => absurd e z4) (fun _ => And.intro (fun e => absurd e z5) (fun _ => And.intro (fun e => absurd e z6) (fun _ => And.intro (fun e => absurd e z7) (fun _ => ?_))))))))
        conv => whnf
        refine cl_use (r := some (vI (pg M t 86 w))) (M1 := M) (fun K h => ?_) trivial ?_
        · refine call_go (hJL rfl) (Nat.le_of_ble_eq_true rfl) (go_wp ok_Text_countOf [] 250 _ _ _ _ _ _ ?_)
          refine And.intro (fun e => absurd e z3) (fun _ => And.intro (fun e => absurd e z4) (fun _ => And.intro (fun e => absurd e z5) (fun _ => And.intro (fun e => absurd e z6) (fun _ => ?_))))
          refine And.intro (fun _ => ?_) (fun e => ?_)
          · conv => whnf
            rw [ew]
            refine cl_use (fun K h => c_wingNum1 Ω M t nw w K l3 hC.2.2.1 hw h) trivial ?_
            conv => whnf
            rw [ec]
            exact h
          · rw [ex] at e; exact absurd (nI_le (a := 10) (by omega) (by omega)) e
        · exact hK
      · refine call_go (hJL rfl) (Nat.le_of_ble_eq_true rfl) (go_wp ok_MD_count [] 250 _ _ _ _ _ _ ?_)
        refine And.intro (fun e => absurd e z0) (fun _ => And.intro (fun e => absurd e z1) (fun _ => And.intro (fun e => absurd e z2) (fun _ => And.intro (fun e => absurd e z3) (fun _ => And.intro (fun e => absurd e z4) (fun _ => And.intro (fun e => absurd e z5) (fun _ => And.intro (fun e => absurd e z6) (fun _ => And.intro (fun e => absurd e z7) (fun _ => ?_))))))))
        conv => whnf
        rw [ew]
        refine cl_use (fun K h => c_MD_row1 Ω M t nw w K (by omega) l3 g (by rw [pg1 (M := M) (f := 84) (p := t) rfl rfl]; exact q3) hw h) trivial ?_
        refine And.intro (fun _ => ?_) (fun e => absurd e (nI_nm1 (by omega)))
        conv => whnf
        refine And.intro (vp_in_nI (by omega) (by decide)) ?_
        rw [nI_clamp (by omega)]
        exact hK
    · refine turn_pure h (some (vI (-1))) ⟨_, rfl⟩ (fun K hK => ?_) (fun K hK => ?_)
      · refine call_go (hJL rfl) (Nat.le_of_ble_eq_true rfl) (go_wp ok_WH_count [] 250 _ _ _ _ _ _ ?_)
        conv => whnf
        rw [a1.2.2.1]
        refine cl_use (fun K h => c_textOfH Ω M nt (some t) K a1 h) trivial ?_
        refine And.intro (fun e => absurd e z0) (fun _ => And.intro (fun e => absurd e z1) (fun _ => And.intro (fun e => absurd e z2) (fun _ => And.intro (fun e => absurd e z3) (fun _ => And.intro (fun e => absurd e z4) (fun _ => And.intro (fun e => absurd e z5) (fun _ => And.intro (fun e => absurd e z6) (fun _ => And.intro (fun e => absurd e z7) (fun _ => ?_))))))))
        conv => whnf
        refine cl_use (r := some (vI (-1))) (M1 := M) (fun K h => ?_) trivial ?_
        · refine call_go (hJL rfl) (Nat.le_of_ble_eq_true rfl) (go_wp ok_Text_countOf [] 250 _ _ _ _ _ _ ?_)
          refine And.intro (fun e => absurd e z3) (fun _ => And.intro (fun e => absurd e z4) (fun _ => And.intro (fun e => absurd e z5) (fun _ => And.intro (fun e => absurd e z6) (fun _ => ?_))))
          refine And.intro (fun _ => ?_) (fun e => h)
          conv => whnf
          refine cl_use (fun K h => c_wingNum0 Ω M t nw (x - 10) K l3 hC.2.2.1 hno h) trivial ?_
          exact h
        · exact hK
      · refine call_go (hJL rfl) (Nat.le_of_ble_eq_true rfl) (go_wp ok_MD_count [] 250 _ _ _ _ _ _ ?_)
        refine And.intro (fun e => absurd e z0) (fun _ => And.intro (fun e => absurd e z1) (fun _ => And.intro (fun e => absurd e z2) (fun _ => And.intro (fun e => absurd e z3) (fun _ => And.intro (fun e => absurd e z4) (fun _ => And.intro (fun e => absurd e z5) (fun _ => And.intro (fun e => absurd e z6) (fun _ => And.intro (fun e => absurd e z7) (fun _ => ?_))))))))
        conv => whnf
        refine cl_use (fun K h => c_MD_row0 Ω M t nw (x - 10) K (by omega) l3 g (by rw [pg1 (M := M) (f := 84) (p := t) rfl rfl]; exact q3) hno h) trivial ?_
        exact And.intro (fun e => absurd rfl e) (fun _ => hK)
