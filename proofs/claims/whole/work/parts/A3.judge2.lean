/-! BEST, the class's: a way judged, II; the search -/
theorem SoC.un {w0 : Nat → Nat → Nat → Bool} {M M' : Mem} {t w : Nat} {T : Tx} {s : Int32} {ha tw : Nat → Int32} (h : SoC M t w T s ha tw) (hU : Un w0 M M') (h1 : ∀ k s, k = 6 ∨ (38 ≤ k ∧ k ≤ 40) → w0 k 0 s = false) : SoC M' t w T s ha tw := by
  obtain ⟨⟨a1, a2, a3⟩, a4, a5⟩ := h
  refine ⟨⟨(hU.R (h1 _ _ (by omega))).trans a1, (hU.R (h1 _ _ (by omega))).trans a2, (hU.I (h1 _ _ (by omega))).trans a3⟩, fun i hi => ⟨(hU.J (h1 _ _ (by omega))).trans (a4 i hi).1, (hU.I (h1 _ _ (by omega))).trans (a4 i hi).2⟩, fun i hi => (hU.J (h1 _ _ (by omega))).trans (a5 i hi)⟩
theorem FdC.un {w0 : Nat → Nat → Nat → Bool} {M M' : Mem} {k : Nat} {b : Option (Int64 × (Nat → Int32))} (h : FdC M k b) (hU : Un w0 M M') (h1 : w0 1 0 6 = false) (h2 : w0 1 0 7 = false) (h3 : ∀ s, w0 22 0 s = false) : FdC M' k b :=
  ⟨(hU.I h1).trans h.1, fun p e => (hU.J h2).trans (h.2.1 p e), fun i hi => (hU.I (h3 _)).trans (h.2.2 i hi)⟩
theorem juS_no {T : Tx} {w : Nat} {v s : Int32} {ha : Nat → Int32} {Ls : Nat → List Lt} {nb : Nat} {lv : Int64} {tw : Nat → Int32} {b : Option (Int64 × (Nat → Int32))} (h : ((!(decide (rnR (evB T w v s ha tw) z0 = -2)) && decide (lv ≤ liS (wN T w) v (rnG (evB T w v s ha tw) z0))) && (!(bbS T w v s ha tw Ls nb) && leB (bdS T w v s ha tw) b)) = false) : juS T w v s ha Ls nb lv tw b = b := by
  unfold juS; rw [h]; rfl
theorem juS_yes {T : Tx} {w : Nat} {v s : Int32} {ha : Nat → Int32} {Ls : Nat → List Lt} {nb : Nat} {lv : Int64} {tw : Nat → Int32} {b : Option (Int64 × (Nat → Int32))} (h : ((!(decide (rnR (evB T w v s ha tw) z0 = -2)) && decide (lv ≤ liS (wN T w) v (rnG (evB T w v s ha tw) z0))) && (!(bbS T w v s ha tw Ls nb) && leB (bdS T w v s ha tw) b)) = true) : juS T w v s ha Ls nb lv tw b = some (bdS T w v s ha tw, tw) := by
  unfold juS; rw [h]; rfl
theorem fcA_no {F : Option (Nat × Nat)} : F.isSome = false → fcA F = -1 := by
  cases F with
  | none => intro _; rfl
  | some q => intro h; cases h
set_option maxHeartbeats 2000000 in
set_option maxRecDepth 8000 in
theorem c_judge (Ω : Om) (M : Mem) (t w k nb : Nat) (T : Tx) (v s le : Int32) (ha tw0 : Nat → Int32) (Ls : Nat → List Lt) (d : Nat → Nat) (b : Option (Int64 × (Nat → Int32))) (K : Ka) (hW : WgOK T w) (hC : ClW M t w T) (hL : ClS M t w T) (h142 : ∀ j, j < 10 → mI M 142 0 j = shT j)
    (hs : -30 ≤ s.toInt ∧ s.toInt ≤ 30) (hha : ∀ h, h < 4 → -30 ≤ (ha h).toInt ∧ (ha h).toInt ≤ 30) (hk : k < 2 ^ wN T w) (h4 : btC k (wN T w) ≤ 4) (hS : SoC M t w T s ha tw0)
    (h0 : ∀ i, i < wN T w → (-30 ≤ (tw0 i).toInt ∧ (tw0 i).toInt ≤ 30) ∧ (bt k i = false → tw0 i = T 95 (10 * w + i))) (h5 : mI M 1 0 5 = nI (btC k (wN T w))) (h18 : ∀ j, j < btC k (wN T w) → mI M 18 0 j = nI (mj k j)) (hT : Trl M (btC k (wN T w)) (ao T w k) d)
    (hd : ∀ j, j < btC k (wN T w) → loF T w k j ≤ d j ∧ d j < loF T w k j + nnF T w k j) (hF : FdC M k b) (hnb : nb ≤ 8) (hbc : mI M 0 t 4 = nI nb) (hB : ∀ q, q < nb → BOK (Ls q) ∧ ClB M t q (Ls q))
    (hK : ∀ M', Un (wJg t) M M' → SoC M' t w T s ha (twD T w k d) → FdC M' k (juS T w v s ha Ls nb le.toInt64 (twD T w k d) b) → K none M') :
    CallS Ω true m_Best_judge [vR (some (1, 0)), vR (some (7, t)), vR (some (10, 4 * t + w)), vI v, vI le] M K := by
  obtain ⟨hn1, hn2, hn3, hst⟩ := hW.n
  generalize htw : twD T w k d = tw at hK
  refine call_go (hJL rfl) (Nat.le_of_ble_eq_true rfl) (go_wp ok_Best_judge [18] 250 _ _ _ _ _ _ ?_)
  conv => whnf
  rw [hC.1.trans hn1]
  refine ⟨fun r M' => r = none ∧ Un (wFl 0) M M' ∧ (∀ i, i < 10 → mJ M' 23 0 i = 0) ∧ mI M' 2 0 4 = nI (wN T w) ∧ mI M' 2 0 5 = v, c_rest Ω M 0 (nI (wN T w)) v _ (fun M' a b c d e => ⟨rfl, a, b, c.trans (if_neg (show ¬ (10 : Int32) < nI (wN T w) from nI_nlt (a := 10) hn3 (by decide))), d⟩), trivial, ?_⟩
  rintro r M1 ⟨rfl, hU1, h23, h24, h25⟩
  have hJ1 : Un wSo M M1 := hU1.mono wSo_fl
  have h5' : mI M1 1 0 5 = nI (btC k (wN T w)) := (hU1.I rfl).trans h5
  have h18' : ∀ j, j < btC k (wN T w) → mI M1 18 0 j = nI (mj k j) := fun j hj => (hU1.I rfl).trans (h18 j hj)
  have hT' : Trl M1 (btC k (wN T w)) (ao T w k) d := fun j hj => (hU1.I rfl).trans (hT j hj)
  conv => whnf
  refine jd_turn hW hs hha hk h4 h0 h5' h18' hT' hd (fun i hi => ⟨(hU1.J rfl).trans (hS.2.1 i hi).1, (hU1.I rfl).trans (hS.2.1 i hi).2⟩) (fun M2 r5 hU2 hA => ?_)
  rw [htw] at hA
  have hJ2 : Un wSo M M2 := hJ1.trans (hU2.mono wSo_tn)
  have hS2 : SoC M2 t w T s ha tw := ⟨⟨(hU2.R rfl).trans ((hU1.R rfl).trans hS.1.1), (hU2.R rfl).trans ((hU1.R rfl).trans hS.1.2.1), (hU2.I rfl).trans ((hU1.I rfl).trans hS.1.2.2)⟩, hA, fun i hi => (hU2.J rfl).trans ((hU1.J rfl).trans (hS.2.2 i hi))⟩
  have hC2 : ClW M2 t w T := hC.un hJ2 (fun _ _ => rfl) (fun k i s h1 h2 => by simp [wSo, nb_d, nl_d]; omega)
  have hL2 : ClS M2 t w T := fun i hi q hq z => (hL i hi q hq z).un hJ2 (fun _ _ => rfl) (fun _ _ => rfl) (fun _ _ => rfl)
  have hE : CE M2 t (evB T w v s ha tw) := ⟨hS2.1.1, hS2.1.2.1, hS2.1.2.2, (hU2.I rfl).trans h24, (hU2.I rfl).trans h25, fun i hi => (hA i hi).1, fun i hi => by
    show _ = (0 : Int64) / _
    rw [z_div]
    have hi : i < wN T w := hi
    exact hS2.2.2 i (by omega), hC2, hL2, fun j hj => (hJ2.I rfl).trans (h142 j hj)⟩
  -- every way out
  have out : ∀ M3, Un (wJg t) M M3 → SoC M3 t w T s ha tw → FdC M3 k (juS T w v s ha Ls nb le.toInt64 tw b) → K none M3 := hK
  refine go_wp ok_Best_judge [121, 143] 250 _ _ _ _ _ _ ?_
  conv => whnf
  refine ⟨fun r M' => r = some (vI (rnR (evB T w v s ha tw) z0)) ∧ Un wRd M2 M' ∧ (¬ rnR (evB T w v s ha tw) z0 = -2 → CF M' (wN T w) (rnG (evB T w v s ha tw) z0) (dnS (evB T w v s ha tw) (rnG (evB T w v s ha tw) z0)) (bnS (evB T w v s ha tw) (rnG (evB T w v s ha tw) z0)) (anS (evB T w v s ha tw) (rnG (evB T w v s ha tw) z0))), c_settle Ω M2 t (evB T w v s ha tw) z0 _ hE (evB_ok hW) z0_bd (fun i hi => (hU2.J rfl).trans (h23 i (by have hi : i < wN T w := hi; omega))) (fun M' a b => ⟨rfl, a, b⟩), trivial, ?_⟩
  rintro r M3 ⟨rfl, hU3, hCF⟩
  have hJ3 : Un wSo M M3 := hJ2.trans (hU3.mono wSo_rd)
  have hS3 : SoC M3 t w T s ha tw := hS2.un hU3 (fun k s h => by simp [wRd, nb_d, nl_d]; omega)
  have hF3 : FdC M3 k b := hF.un hJ3 rfl rfl (fun _ => rfl)
  have hC3 : ClW M3 t w T := hC.un hJ3 (fun _ _ => rfl) (fun k i s h1 h2 => by simp [wSo, nb_d, nl_d]; omega)
  have hL3 : ClS M3 t w T := fun i hi q hq z => (hL i hi q hq z).un hJ3 (fun _ _ => rfl) (fun _ _ => rfl) (fun _ _ => rfl)
  have hs3 : mI M3 2 0 4 = nI (wN T w) ∧ mI M3 2 0 5 = v := ⟨(hU3.I rfl).trans ((hU2.I rfl).trans h24), (hU3.I rfl).trans ((hU2.I rfl).trans h25)⟩
  have same : juS T w v s ha Ls nb le.toInt64 tw b = b → K none M3 := fun e => out M3 (hJ3.mono wJg_So) hS3 (by rw [e]; exact hF3)
  refine And.intro (fun z => ?_) (fun z => ?_)
  · refine same (juS_no ?_)
    rw [decide_eq_true z]; rfl
  have hCF := hCF z
  conv => whnf
  refine cl_use (fun K h => c_liftNow Ω M3 0 _ v (rnG (evB T w v s ha tw) z0) K hn3 hs3.1 hs3.2 (fun i hi => (hCF i hi).1) h) trivial ?_
  refine And.intro (fun g => ?_) (fun g => ?_)
  rotate_left
  · have g : ¬ le.toInt64 ≤ liS (wN T w) v (rnG (evB T w v s ha tw) z0) := fun q => g ((lg_cmp_ge _ _).mpr q)
    refine same (juS_no ?_)
    rw [decide_eq_false g, Bool.and_false]; rfl
  have g := (lg_cmp_ge _ _).mp g
  conv => whnf
  refine cl_use (fun K h => c_dragNow Ω M3 t w 0 T v (rnG (evB T w v s ha tw) z0) (dnS (evB T w v s ha tw) (rnG (evB T w v s ha tw) z0)) (anS (evB T w v s ha tw) (rnG (evB T w v s ha tw) z0)) K hW hC3 hL3 hs3.1 hs3.2 (fun i hi => ⟨(hCF i hi).1, (hCF i hi).2.1, (hCF i hi).2.2.2⟩) h) trivial ?_
  conv => whnf
  have hD : drS T w (wN T w) v (rnG (evB T w v s ha tw) z0) (dnS (evB T w v s ha tw) (rnG (evB T w v s ha tw) z0)) (anS (evB T w v s ha tw) (rnG (evB T w v s ha tw) z0)) = bdS T w v s ha tw := rfl
  have e121 : leB (bdS T w v s ha tw) b = true → GoS Ω true m_Best_judge K 121 [some (vR (some (1, 0))), some (vR (some (7, t))), some (vR (some (10, 4 * t + w))), some (vI v), some (vI le), some (vJ (bdS T w v s ha tw)), none, none] [] M3 0 0 := by
    intro hl
    refine go_wp ok_Best_judge [144] 250 _ _ _ _ _ _ ?_
    conv => whnf
    refine ⟨fun r M' => r = some (vI (fcA (fbS Ls nb (vrS (wN T w) v (fun i => T 92 (10 * w + i)) tw (rnG (evB T w v s ha tw) z0) (dnS (evB T w v s ha tw) (rnG (evB T w v s ha tw) z0)) (bnS (evB T w v s ha tw) (rnG (evB T w v s ha tw) z0)) (anS (evB T w v s ha tw) (rnG (evB T w v s ha tw) z0))) (wN T w) 0))) ∧ Un (wFb t) M3 M', c_firstBarred Ω M3 t w 0 38 0 (wN T w) nb v (fun i => T 92 (10 * w + i)) tw _ _ _ _ Ls _ hn3 hnb rfl (fun s => by simp [wFb, wBr, nb_d]) hs3.1 hs3.2 (fun i hi => hCF i hi) (fun i hi => (hC3.2.2.2.2.1 i hi).1) (fun i hi => (hS3.2.1 i hi).2) ((hJ3.I rfl).trans hbc) (fun q hq => ⟨(hB q hq).1, (hB q hq).2.un hJ3 (fun k i s h1 h2 => by simp [wSo, nb_d, nl_d]; omega)⟩) (fun M' q => ⟨rfl, q⟩), trivial, ?_⟩
    rintro r M4 ⟨rfl, hU4⟩
    have hS4 : SoC M4 t w T s ha tw := hS3.un hU4 (fun k s h => by simp [wFb, wBr, nb_d, nl_d]; omega)
    have hJ4 : Un (wJg t) M M4 := (hJ3.mono wJg_So).trans (hU4.mono wJg_Fb)
    have h5b : mI M4 1 0 5 = nI (btC k (wN T w)) := (hU4.I (by simp [wFb, wBr, nb_d])).trans ((hJ3.I rfl).trans h5)
    have h18b : ∀ j, j < btC k (wN T w) → mI M4 18 0 j = nI (mj k j) := fun j hj => (hU4.I (by simp [wFb, wBr, nb_d])).trans ((hJ3.I rfl).trans (h18 j hj))
    have hTb : Trl M4 (btC k (wN T w)) (ao T w k) d := fun j hj => (hU4.I (by simp [wFb, wBr, nb_d])).trans ((hJ3.I rfl).trans (hT j hj))
    have hFb : FdC M4 k b := hF3.un hU4 (by simp [wFb, wBr, nb_d]) (by simp [wFb, wBr, nb_d]) (fun s => by simp [wFb, wBr, nb_d])
    have eb : bbS T w v s ha tw Ls nb = (fbS Ls nb (vrS (wN T w) v (fun i => T 92 (10 * w + i)) tw (rnG (evB T w v s ha tw) z0) (dnS (evB T w v s ha tw) (rnG (evB T w v s ha tw) z0)) (bnS (evB T w v s ha tw) (rnG (evB T w v s ha tw) z0)) (anS (evB T w v s ha tw) (rnG (evB T w v s ha tw) z0))) (wN T w) 0).isSome := rfl
    generalize hFF : fbS Ls nb (vrS (wN T w) v (fun i => T 92 (10 * w + i)) tw (rnG (evB T w v s ha tw) z0) (dnS (evB T w v s ha tw) (rnG (evB T w v s ha tw) z0)) (bnS (evB T w v s ha tw) (rnG (evB T w v s ha tw) z0)) (anS (evB T w v s ha tw) (rnG (evB T w v s ha tw) z0))) (wN T w) 0 = F at eb
    cases F with
    | none =>
      refine And.intro (fun _ => ?_) (fun e => absurd (show (-1 : Int32) < 0 by decide) e)
      conv => whnf
      refine jd_keep hW hk h4 h5b h18b hTb hFb.2.2 (fun M5 hU5 hF5 => ?_) none
      refine out M5 (hJ4.trans (hU5.mono wJg_Fd)) (hS4.un hU5 (fun k s h => by simp [wFd, nb_d]; omega)) ?_
      rw [juS_yes (by rw [decide_eq_false z, decide_eq_true g, eb, hl]; rfl)]
      rw [htw] at hF5
      exact hF5
    | some q =>
      obtain ⟨i, j⟩ := q
      have hb := fbS_lt hFF
      refine And.intro (fun e => absurd e (nI_pos (n := 8 * i + j) (by omega))) (fun _ => ?_)
      refine out M4 hJ4 hS4 ?_
      rw [juS_no (by rw [eb]; simp)]
      exact hFb
  rw [hD]
  have h16 := hF3.1
  cases b with
  | none =>
    have h16 : mI M3 1 0 6 = 0 := h16
    rw [h16]
    refine And.intro (fun _ => ?_) (fun e => absurd rfl e)
    conv => whnf
    exact e121 rfl
  | some p =>
    have h16 : mI M3 1 0 6 = 1 := h16
    rw [h16]
    refine And.intro (fun e => absurd e (by decide)) (fun _ => ?_)
    conv => whnf
    rw [hF3.2.1 p rfl]
    refine And.intro (fun e => ?_) (fun e => ?_)
    · have e := (lg_cmp_ge _ _).mp e
      refine go_wp ok_Best_judge [] 250 _ _ _ _ _ _ ?_
      refine same (juS_no ?_)
      have : leB (bdS T w v s ha tw) (some p) = false := decide_eq_false (Int64.not_lt.mpr e)
      rw [this]
      simp
    · have e : ¬ _ ≤ _ := fun q => e ((lg_cmp_ge _ _).mpr q)
      conv => whnf
      exact e121 (decide_eq_true (Int64.not_le.mp e))
