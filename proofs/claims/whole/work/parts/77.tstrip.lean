/-! TURNS, XII: strip, edge, force -/
theorem wX_tx : Av cTx wX := wX_av.tx
theorem turn_scr {Ω : Om} {ty : Option Vl → Prop} {jx jm : Nat} {as : List Vl} {M : Mem} (h : Inv M) (r : Option Vl) (hr : ty r) (hx : ∀ K : Ka, (∀ M1, Un wC M M1 → Un wX M M1 → K r M1) → CallS Ω true jx (vR (some (11, 0)) :: as) M K) (hm : ∀ M1, Un wC M M1 → Un wX M M1 → ∀ K : Ka, (∀ M2, Un wX M1 M2 → K r M2) → CallS Ω true jm (vR (some (12, 0)) :: as) M1 K) : Turn Ω ty jx jm as M := by
  refine ⟨fun r' M1 => r' = r ∧ Un wC M M1 ∧ Un wX M M1, hx _ (fun M1 a b => ⟨rfl, a, b⟩), ?_⟩
  rintro r' M1 ⟨rfl, a, b⟩
  exact ⟨hr, wX_141 b, hm M1 a b _ (fun M2 c => ⟨rfl, h.all (b.trans c) wX_av, wX_141 c⟩)⟩
theorem CS.un {w0 : Nat → Nat → Nat → Bool} {M M' : Mem} {f n : Nat} {v : Int32} {g d b a : Nat → Int64} (h : CS M f n v g d b a) (hU : Un w0 M M') (hw : ∀ k s, k = 2 ∨ (23 ≤ k ∧ k ≤ 26) → w0 k f s = false) : CS M' f n v g d b a := by
  obtain ⟨c1, c2, c3, c4⟩ := h
  refine ⟨(hU.I (hw _ _ (by omega))).trans c1, (hU.I (hw _ _ (by omega))).trans c2, (hU.I (hw _ _ (by omega))).trans c3, fun i hi => ?_⟩
  obtain ⟨z1, z2, z3, z4⟩ := c4 i hi
  exact ⟨(hU.J (hw _ _ (by omega))).trans z1, (hU.J (hw _ _ (by omega))).trans z2, (hU.J (hw _ _ (by omega))).trans z3, (hU.J (hw _ _ (by omega))).trans z4⟩
theorem SvY.un {M M' : Mem} {o : Option Nat} {x : Int32} {t w : Nat} {v : Int32} {g d b a : Nat → Int64} (h : SvY M o x t w v g d b a) (hU : Un wX M M') : SvY M' o x t w v g d b a := by
  obtain ⟨hY, hC, m1, m2, m3⟩ := h
  have ep := pg_av hU wX_tx t
  refine ⟨hY.un hU wX_tx, ?_, ?_⟩
  · rw [ep]
    refine hC.un hU (fun k s hk => ?_)
    rcases (show k = 2 ∨ k = 23 ∨ k = 24 ∨ k = 25 ∨ k = 26 by omega) with rfl | rfl | rfl | rfl | rfl <;> rfl
  · rw [ep]
    refine ⟨(hU.I rfl).trans m1, (hU.I rfl).trans m2, fun i hi => ?_⟩
    obtain ⟨z1, z2, z3, z4⟩ := m3 i hi
    exact ⟨(hU.J rfl).trans z1, (hU.J rfl).trans z2, (hU.J rfl).trans z3, (hU.J rfl).trans z4⟩
theorem SvN.un {M M' : Mem} {o : Option Nat} {x : Int32} (h : SvN M o x) (hU : Un wX M M') : SvN M' o x := by
  rcases h with h | ⟨t, w, hY, a, b⟩
  · exact Or.inl (h.un hU wX_tx)
  · exact Or.inr ⟨t, w, hY.un hU wX_tx, (hU.I rfl).trans a, (hU.I rfl).trans b⟩
set_option maxRecDepth 8000 in
theorem t_edge (Ω : Om) (M : Mem) (x k : Int32) (h : Inv M) : Turn Ω tyI m_WH_edge m_MD_edge [vI x, vI k] M := by
  obtain ⟨nt, o, a1, a2, a3, a4, a5, a6, a7, a8, a9, a10⟩ := id h
  rcases sv_res a1 a6 x with hN | ⟨t, w, v, g, d, b, a, hS⟩
  · refine turn_scr h (some (vI (-1000000))) ⟨_, rfl⟩ (fun K hK => ?_) (fun M1 p1 p2 K hK => ?_)
    · refine call_go (hJL rfl) (Nat.le_of_ble_eq_true rfl) (go_wp ok_WH_edge [] 250 _ _ _ _ _ _ ?_)
      conv => whnf
      refine cl_use (fun K h => c_solvedN Ω M nt o x K a1 hN h) trivial ?_
      exact hK M Un.rfl Un.rfl
    · refine call_go (hJL rfl) (Nat.le_of_ble_eq_true rfl) (go_wp ok_MD_edge [] 250 _ _ _ _ _ _ ?_)
      conv => whnf
      refine cl_use (fun K h => c_againN Ω M1 nt o x K (a2.un p1 rfl rfl) (hN.un p2) h) trivial ?_
      exact And.intro (fun _ => hK M1 Un.rfl) (fun e => absurd rfl e)
  · obtain ⟨hW, hC, -⟩ := hS.1.ok
    have hn3 := hW.n.2.2.1
    have hcs := hS.2.1
    by_cases hk : ∃ j, j < wN (pg M t) w + 1 ∧ k = nI j
    · obtain ⟨j, hj, rfl⟩ := hk
      refine turn_scr h (some (vI (eg g (wN (pg M t) w) j).toInt32)) ⟨_, rfl⟩ (fun K hK => ?_) (fun M1 p1 p2 K hK => ?_)
      · refine call_go (hJL rfl) (Nat.le_of_ble_eq_true rfl) (go_wp ok_WH_edge [] 250 _ _ _ _ _ _ ?_)
        conv => whnf
        refine cl_use (fun K h => c_solvedY Ω M nt t w o x v g d b a K a1 hS h) trivial ?_
        conv => whnf
        refine And.intro (fun e => absurd e (nI_pos (by omega))) (fun _ => And.intro (fun _ => ?_) (fun e => ?_))
        · conv => whnf
          refine cl_use (fun K h => c_edgeAt Ω M (4 * t + w + 2) _ j g K hn3 (by omega) hcs.2.1 (fun i hi => (hcs.2.2.2 i hi).1) h) trivial ?_
          exact hK M Un.rfl Un.rfl
        · rw [hC.1, hW.n.1] at e
          exact absurd (nI_le (by omega) (by omega)) e
      · refine call_go (hJL rfl) (Nat.le_of_ble_eq_true rfl) (go_wp ok_MD_edge [] 250 _ _ _ _ _ _ ?_)
        conv => whnf
        have hS1 := hS.un p2
        have ep := pg_av p2 wX_tx t
        refine ⟨fun r M' => r = some (vI 1) ∧ Un wX M1 M' ∧ MF M' (wN (pg M t) w) g d b a ∧ mI M' 12 0 72 = nI (wN (pg M t) w), c_againY Ω M1 nt t w o x v g d b a _ (a2.un p1 rfl rfl) hS1 (fun M' q0 q1 q2 q3 q4 q5 q6 => ⟨rfl, q1, by rw [ep] at q2; exact q2, by rw [ep] at q4; exact q4⟩), trivial, ?_⟩
        rintro r M2 ⟨rfl, q1, q2, q4⟩
        refine And.intro (fun e => absurd e (by decide)) (fun _ => ?_)
        conv => whnf
        rw [q4]
        refine cl_use (fun K h => c_MD_in Ω _ (nI j) 0 (nI (wN (pg M t) w)) K h) trivial ?_
        rw [show inR 0 (nI (wN (pg M t) w)) (nI j) = true from inR_t.mpr ⟨nI_pos' (by omega), nI_le (by omega) (by omega)⟩]
        refine And.intro (fun e => absurd e (by decide)) (fun _ => ?_)
        conv => whnf
        refine cl_use (fun K h => c_edgeOf Ω M2 _ j g K hn3 (by omega) q4 (fun i hi => (q2 i hi).1) h) trivial ?_
        exact hK M2 q1
    · have hk2 : k < 0 ∨ nI (wN (pg M t) w) < k := by
        rcases pk_ix k (n := wN (pg M t) w + 1) (by omega) with q | q | q
        · exact Or.inl q
        · exact Or.inr (Int32.lt_of_lt_of_le (nI_lt (Nat.lt_succ_self _) (by omega)) q)
        · exact absurd q hk
      refine turn_scr h (some (vI (-1000000))) ⟨_, rfl⟩ (fun K hK => ?_) (fun M1 p1 p2 K hK => ?_)
      · refine call_go (hJL rfl) (Nat.le_of_ble_eq_true rfl) (go_wp ok_WH_edge [] 250 _ _ _ _ _ _ ?_)
        conv => whnf
        refine cl_use (fun K h => c_solvedY Ω M nt t w o x v g d b a K a1 hS h) trivial ?_
        conv => whnf
        refine And.intro (fun e => hK M Un.rfl Un.rfl) (fun z1 => And.intro (fun e => ?_) (fun e => hK M Un.rfl Un.rfl))
        rw [hC.1, hW.n.1] at e
        rcases hk2 with q | q
        · exact absurd q z1
        · exact absurd e (Int32.not_le.mpr q)
      · refine call_go (hJL rfl) (Nat.le_of_ble_eq_true rfl) (go_wp ok_MD_edge [] 250 _ _ _ _ _ _ ?_)
        conv => whnf
        have hS1 := hS.un p2
        have ep := pg_av p2 wX_tx t
        refine ⟨fun r M' => r = some (vI 1) ∧ Un wX M1 M' ∧ mI M' 12 0 72 = nI (wN (pg M t) w), c_againY Ω M1 nt t w o x v g d b a _ (a2.un p1 rfl rfl) hS1 (fun M' q0 q1 q2 q3 q4 q5 q6 => ⟨rfl, q1, by rw [ep] at q4; exact q4⟩), trivial, ?_⟩
        rintro r M2 ⟨rfl, q1, q4⟩
        refine And.intro (fun e => absurd e (by decide)) (fun _ => ?_)
        conv => whnf
        rw [q4]
        refine cl_use (fun K h => c_MD_in Ω _ k 0 (nI (wN (pg M t) w)) K h) trivial ?_
        rw [inR_f.mpr hk2]
        exact And.intro (fun _ => hK M2 q1) (fun e => absurd rfl e)
/-- what a strip shows -/
def shW (c : Int32) (g d b a : Nat → Int64) (i : Nat) : Int64 := if c = 0 then g i else if c = 1 then d i else if c = 2 then b i else a i
set_option maxRecDepth 8000 in
theorem t_strip (Ω : Om) (M : Mem) (x k c : Int32) (h : Inv M) : Turn Ω tyI m_WH_strip m_MD_strip [vI x, vI k, vI c] M := by
  obtain ⟨nt, o, a1, a2, a3, a4, a5, a6, a7, a8, a9, a10⟩ := id h
  rcases sv_res a1 a6 x with hN | ⟨t, w, v, g, d, b, a, hS⟩
  · refine turn_scr h (some (vI (-1000000))) ⟨_, rfl⟩ (fun K hK => ?_) (fun M1 p1 p2 K hK => ?_)
    · refine call_go (hJL rfl) (Nat.le_of_ble_eq_true rfl) (go_wp ok_WH_strip [] 250 _ _ _ _ _ _ ?_)
      conv => whnf
      refine cl_use (fun K h => c_solvedN Ω M nt o x K a1 hN h) trivial ?_
      exact hK M Un.rfl Un.rfl
    · refine call_go (hJL rfl) (Nat.le_of_ble_eq_true rfl) (go_wp ok_MD_strip [] 250 _ _ _ _ _ _ ?_)
      conv => whnf
      refine cl_use (fun K h => c_againN Ω M1 nt o x K (a2.un p1 rfl rfl) (hN.un p2) h) trivial ?_
      exact And.intro (fun _ => hK M1 Un.rfl) (fun e => absurd rfl e)
  · obtain ⟨hW, hC, -⟩ := hS.1.ok
    have hn3 := hW.n.2.2.1
    have hcs := hS.2.1
    by_cases hk : (∃ j, j < wN (pg M t) w ∧ k = nI j) ∧ (c = 0 ∨ c = 1 ∨ c = 2 ∨ c = 3)
    · obtain ⟨⟨j, hj, rfl⟩, hcc⟩ := hk
      obtain ⟨z1, z2, z3, z4⟩ := hcs.2.2.2 j hj
      refine turn_scr h (some (vI (shW c g d b a j).toInt32)) ⟨_, rfl⟩ (fun K hK => ?_) (fun M1 p1 p2 K hK => ?_)
      · refine call_go (hJL rfl) (Nat.le_of_ble_eq_true rfl) (go_wp ok_WH_strip [] 250 _ _ _ _ _ _ ?_)
        conv => whnf
        refine cl_use (fun K h => c_solvedY Ω M nt t w o x v g d b a K a1 hS h) trivial ?_
        conv => whnf
        refine And.intro (fun e => absurd e (nI_pos (by omega))) (fun _ => And.intro (fun e => ?_) (fun _ => And.intro (fun _ => ?_) (fun e => absurd (show nI j < (10 : Int32) from nI_lt (b := 10) (by omega) (by decide)) e)))
        · rw [hC.1, hW.n.1, nI_leI (by omega) (by omega)] at e; omega
        have hK := hK M Un.rfl Un.rfl
        rcases hcc with rfl | rfl | rfl | rfl
        · refine And.intro (fun _ => ?_) (fun e => absurd rfl e)
          conv => whnf
          refine And.intro (vp_in_nI (by omega) (by decide)) ?_
          rw [nI_clamp (by omega), z1]
          exact hK
        · refine And.intro (fun e => absurd e (by decide)) (fun _ => And.intro (fun _ => ?_) (fun e => absurd rfl e))
          conv => whnf
          refine And.intro (vp_in_nI (by omega) (by decide)) ?_
          rw [nI_clamp (by omega), z2]
          exact hK
        · refine And.intro (fun e => absurd e (by decide)) (fun _ => And.intro (fun e => absurd e (by decide)) (fun _ => And.intro (fun _ => ?_) (fun e => absurd rfl e)))
          conv => whnf
          refine And.intro (vp_in_nI (by omega) (by decide)) ?_
          rw [nI_clamp (by omega), z3]
          exact hK
        · refine And.intro (fun e => absurd e (by decide)) (fun _ => And.intro (fun e => absurd e (by decide)) (fun _ => And.intro (fun e => absurd e (by decide)) (fun _ => And.intro (fun _ => ?_) (fun e => absurd rfl e))))
          conv => whnf
          refine And.intro (vp_in_nI (by omega) (by decide)) ?_
          rw [nI_clamp (by omega), z4]
          exact hK
      · refine call_go (hJL rfl) (Nat.le_of_ble_eq_true rfl) (go_wp ok_MD_strip [] 250 _ _ _ _ _ _ ?_)
        conv => whnf
        have hS1 := hS.un p2
        have ep := pg_av p2 wX_tx t
        refine ⟨fun r M' => r = some (vI 1) ∧ Un wX M1 M' ∧ MF M' (wN (pg M t) w) g d b a ∧ mI M' 12 0 72 = nI (wN (pg M t) w), c_againY Ω M1 nt t w o x v g d b a _ (a2.un p1 rfl rfl) hS1 (fun M' q0 q1 q2 q3 q4 q5 q6 => ⟨rfl, q1, by rw [ep] at q2; exact q2, by rw [ep] at q4; exact q4⟩), trivial, ?_⟩
        rintro r M2 ⟨rfl, q1, q2, q4⟩
        obtain ⟨y1, y2, y3, y4⟩ := q2 j hj
        refine And.intro (fun e => absurd e (by decide)) (fun _ => ?_)
        conv => whnf
        rw [q4]
        refine cl_use (fun K h => c_MD_in Ω _ (nI j) 0 (nI (wN (pg M t) w) - 1) K h) trivial ?_
        rw [inR_y (by omega) hj]
        refine And.intro (fun e => absurd e (by decide)) (fun _ => ?_)
        conv => whnf
        refine cl_use (fun K h => c_MD_in Ω _ c 0 3 K h) trivial ?_
        rw [show inR 0 3 c = true from by rcases hcc with rfl | rfl | rfl | rfl <;> decide]
        refine And.intro (fun _ => ?_) (fun e => absurd e (by decide))
        have hK := hK M2 q1
        rcases hcc with rfl | rfl | rfl | rfl
        · refine And.intro (fun e => absurd rfl e) (fun _ => ?_)
          conv => whnf
          refine And.intro (vp_in_nI (by omega) (by decide)) ?_
          rw [nI_clamp (by omega), y1]
          exact hK
        · refine And.intro (fun _ => And.intro (fun e => absurd rfl e) (fun _ => ?_)) (fun e => absurd e (by decide))
          conv => whnf
          refine And.intro (vp_in_nI (by omega) (by decide)) ?_
          rw [nI_clamp (by omega), y2]
          exact hK
        · refine And.intro (fun _ => And.intro (fun _ => And.intro (fun e => absurd rfl e) (fun _ => ?_)) (fun e => absurd e (by decide))) (fun e => absurd e (by decide))
          conv => whnf
          refine And.intro (vp_in_nI (by omega) (by decide)) ?_
          rw [nI_clamp (by omega), y3]
          exact hK
        · refine And.intro (fun _ => And.intro (fun _ => And.intro (fun _ => ?_) (fun e => absurd e (by decide))) (fun e => absurd e (by decide))) (fun e => absurd e (by decide))
          conv => whnf
          refine And.intro (vp_in_nI (by omega) (by decide)) ?_
          rw [nI_clamp (by omega), y4]
          exact hK
    · refine turn_scr h (some (vI (-1000000))) ⟨_, rfl⟩ (fun K hK => ?_) (fun M1 p1 p2 K hK => ?_)
      · refine call_go (hJL rfl) (Nat.le_of_ble_eq_true rfl) (go_wp ok_WH_strip [] 250 _ _ _ _ _ _ ?_)
        conv => whnf
        refine cl_use (fun K h => c_solvedY Ω M nt t w o x v g d b a K a1 hS h) trivial ?_
        conv => whnf
        have hK := hK M Un.rfl Un.rfl
        refine And.intro (fun e => hK) (fun z1 => And.intro (fun e => hK) (fun z2 => And.intro (fun _ => ?_) (fun e => hK)))
        rw [hC.1, hW.n.1] at z2
        have hj : ∃ j, j < wN (pg M t) w ∧ k = nI j := by
          rcases pk_ix k (n := wN (pg M t) w) (by omega) with q | q | q
          · exact absurd q z1
          · exact absurd q z2
          · exact q
        refine And.intro (fun e => absurd ⟨hj, Or.inl e⟩ hk) (fun _ => And.intro (fun e => absurd ⟨hj, Or.inr (Or.inl e)⟩ hk) (fun _ => And.intro (fun e => absurd ⟨hj, Or.inr (Or.inr (Or.inl e))⟩ hk) (fun _ => And.intro (fun e => absurd ⟨hj, Or.inr (Or.inr (Or.inr e))⟩ hk) (fun _ => hK))))
      · refine call_go (hJL rfl) (Nat.le_of_ble_eq_true rfl) (go_wp ok_MD_strip [] 250 _ _ _ _ _ _ ?_)
        conv => whnf
        have hS1 := hS.un p2
        have ep := pg_av p2 wX_tx t
        refine ⟨fun r M' => r = some (vI 1) ∧ Un wX M1 M' ∧ mI M' 12 0 72 = nI (wN (pg M t) w), c_againY Ω M1 nt t w o x v g d b a _ (a2.un p1 rfl rfl) hS1 (fun M' q0 q1 q2 q3 q4 q5 q6 => ⟨rfl, q1, by rw [ep] at q4; exact q4⟩), trivial, ?_⟩
        rintro r M2 ⟨rfl, q1, q4⟩
        refine And.intro (fun e => absurd e (by decide)) (fun _ => ?_)
        conv => whnf
        rw [q4]
        have hK := hK M2 q1
        refine cl_use (fun K h => c_MD_in Ω _ k 0 (nI (wN (pg M t) w) - 1) K h) trivial ?_
        refine br_bz (fun _ => hK) (fun e1 => ?_)
        conv => whnf
        refine cl_use (fun K h => c_MD_in Ω _ c 0 3 K h) trivial ?_
        refine br_bn (fun e2 => ?_) (fun _ => hK)
        refine absurd ⟨?_, ?_⟩ hk
        · rcases nI_cases k (n := wN (pg M t) w) (by omega) with q | q
          · exact q
          · rw [inR_n (by omega) q] at e1; cases e1
        · rcases nI_cases c (n := 4) (by decide) with ⟨j, hj, e⟩ | q
          · rcases (show j = 0 ∨ j = 1 ∨ j = 2 ∨ j = 3 by omega) with rfl | rfl | rfl | rfl
            · exact Or.inl e
            · exact Or.inr (Or.inl e)
            · exact Or.inr (Or.inr (Or.inl e))
            · exact Or.inr (Or.inr (Or.inr e))
          · rw [show inR 0 3 c = false from inR_n (n := 4) (by decide) q] at e2; cases e2
