/-! BEST, the class's: the search -/
/-- the best of all ways -/
def bsW (T : Tx) (w : Nat) (v s : Int32) (ha : Nat → Int32) (Ls : Nat → List Lt) (nb : Nat) (le : Int32) (k : Nat) (c : Nat) : Option (Int64 × (Nat → Int32)) := foN (fun c b => juS T w v s ha Ls nb le.toInt64 (twD T w k (dF (loF T w k) (nnF T w k) (btC k (wN T w)) c)) b) c none
def bsA (b : Option (Int64 × (Nat → Int32))) : Int64 := match b with
  | none => -1000000000001
  | some p => p.1
def bsN (T : Tx) (w k : Nat) : Nat := dP (nnF T w k) (btC k (wN T w))
theorem dP_le {n : Nat → Nat} : ∀ m, (∀ j, j < m → n j ≤ 5) → dP n m ≤ 5 ^ m := by
  intro m
  induction m with
  | zero => intro _; exact Nat.le_refl _
  | succ m ih =>
    intro h
    rw [dP, Nat.pow_succ]
    exact Nat.mul_le_mul (ih (fun j hj => h j (by omega))) (h m (by omega))
theorem dP_pos {n : Nat → Nat} : ∀ m, (∀ j, j < m → 0 < n j) → 0 < dP n m := by
  intro m
  induction m with
  | zero => intro _; exact Nat.one_pos
  | succ m ih =>
    intro h
    rw [dP]
    exact Nat.mul_pos (ih (fun j hj => h j (by omega))) (h m (by omega))
theorem dF_0 {lo n : Nat → Nat} : ∀ m j, j < m → dF lo n m 0 j = lo j := by
  intro m
  induction m with
  | zero => intro j hj; exact absurd hj (Nat.not_lt_zero _)
  | succ m ih =>
    intro j hj
    rw [dF]
    unfold up1
    by_cases e : j = m
    · rw [if_pos e, e, Nat.zero_mod, Nat.add_zero]
    · rw [if_neg e, Nat.zero_div]
      exact ih j (by omega)
theorem bsN_ok {T : Tx} {w k : Nat} (hW : WgOK T w) (hk : k < 2 ^ wN T w) (h4 : btC k (wN T w) ≤ 4) : 0 < bsN T w k ∧ bsN T w k ≤ 625 := by
  have h : ∀ j, j < btC k (wN T w) → 0 < nnF T w k j ∧ nnF T w k j ≤ 5 := fun j hj => by
    have := dnn_ok (ao_ok hW hk hj).1
    have e : nnF T w k j = dnn (ao T w k j) := rfl
    omega
  refine ⟨dP_pos _ (fun j hj => (h j hj).1), Nat.le_trans (dP_le _ (fun j hj => (h j hj).2)) ?_⟩
  exact Nat.pow_le_pow_right (n := 5) (by decide) h4
theorem dF_ok {T : Tx} {w k c : Nat} (hW : WgOK T w) (hk : k < 2 ^ wN T w) (hc : c < bsN T w k) : ∀ j, j < btC k (wN T w) → loF T w k j ≤ dF (loF T w k) (nnF T w k) (btC k (wN T w)) c j ∧ dF (loF T w k) (nnF T w k) (btC k (wN T w)) c j < loF T w k j + nnF T w k j :=
  dF_in _ (fun j hj => (dnn_ok (ao_ok hW hk hj).1).2.2) c hc
theorem twD_ok {T : Tx} {w k : Nat} {d : Nat → Nat} (hW : WgOK T w) (hk : k < 2 ^ wN T w) (hd : ∀ j, j < btC k (wN T w) → loF T w k j ≤ d j ∧ d j < loF T w k j + nnF T w k j) : ∀ i, i < wN T w → (-30 ≤ (twD T w k d i).toInt ∧ (twD T w k d i).toInt ≤ 30) ∧ (bt k i = false → twD T w k d i = T 95 (10 * w + i)) := by
  intro i hi
  have hn := hW.n
  unfold twD
  cases c : bt k i with
  | false =>
    rw [if_neg (by decide)]
    exact ⟨(hn.2.2.2 i hi).2.2.2.1, fun _ => rfl⟩
  | true =>
    rw [if_pos rfl]
    refine ⟨?_, fun q => by cases q⟩
    have hj := btC_lt hi c
    have e : ao T w k (btC k i) = aO (T 95 (10 * w + i)) := by
      unfold ao
      rw [mj_i (k_1024 hk hn.2.2.1) (by omega) c]
    have := hd _ hj
    unfold loF nnF at this
    rw [e] at this
    exact tv_bd (aO_ok (hn.2.2.2 i hi).2.2.2.1).1 this.1 this.2
def wSr (t k i s : Nat) : Bool := wJg t k i s || wTd k i s
theorem wSr_Jg {t : Nat} : ∀ k i s, wSr t k i s = false → wJg t k i s = false := fun k i s h => (Bool.or_eq_false_iff.mp h).1
theorem wSr_Td {t : Nat} : ∀ k i s, wSr t k i s = false → wTd k i s = false := fun k i s h => (Bool.or_eq_false_iff.mp h).2
theorem wSr_4 {t : Nat} : ∀ k i s, wSr t k i s = false → wTr4 k i s = false := fun k i s h => by
  have := wSr_Td k i s h
  simp [wTd, wTr4, nb_d, nl_d] at this ⊢
  omega
theorem ClW.un' {w0 : Nat → Nat → Nat → Bool} {M M' : Mem} {t w : Nat} {T : Tx} (h : ClW M t w T) (hU : Un w0 M M') (hw : Av cTx w0) : ClW M' t w T := h.un hU (fun _ _ => hw _ _ _ rfl) (fun k i s h1 h2 => hw _ _ _ (by simp [cTx, nb_d, nl_d]; omega))
theorem ClS.un' {w0 : Nat → Nat → Nat → Bool} {M M' : Mem} {t w : Nat} {T : Tx} (h : ClS M t w T) (hU : Un w0 M M') (hw : Av cTx w0) : ClS M' t w T := fun i hi q hq z => (h i hi q hq z).un hU (fun _ _ => hw _ _ _ rfl) (fun _ _ => hw _ _ _ rfl) (fun _ _ => hw _ _ _ rfl)
theorem ClB.un' {w0 : Nat → Nat → Nat → Bool} {M M' : Mem} {t b : Nat} {L : List Lt} (h : ClB M t b L) (hU : Un w0 M M') (hw : Av cTx w0) : ClB M' t b L := h.un hU (fun k i s h1 h2 => hw _ _ _ (by simp [cTx, nb_d, nl_d]; omega))
theorem wSr_tx {t : Nat} : Av cTx (wSr t) := fun k i s h => by
  simp [cTx, wSr, wJg, wSo, wFb, wBr, wFd, wTd, nb_d, nl_d] at h ⊢
  omega
set_option maxHeartbeats 2000000 in
set_option maxRecDepth 8000 in
theorem c_search (Ω : Om) (M : Mem) (t w k nb : Nat) (T : Tx) (v s le : Int32) (ha : Nat → Int32) (Ls : Nat → List Lt) (K : Ka) (hW : WgOK T w) (hC : ClW M t w T) (hL : ClS M t w T) (hSt : Sta M)
    (hs : -30 ≤ s.toInt ∧ s.toInt ≤ 30) (h44 : ∀ h, h < 4 → mI M 44 t h = ha h) (hha : ∀ h, h < 4 → -30 ≤ (ha h).toInt ∧ (ha h).toInt ≤ 30) (hk : k < 2 ^ wN T w) (h4 : btC k (wN T w) ≤ 4)
    (hnb : nb ≤ 8) (hbc : mI M 0 t 4 = nI nb) (hB : ∀ q, q < nb → BOK (Ls q) ∧ ClB M t q (Ls q))
    (hK : ∀ M', Un (wSr t) M M' → (∀ i, i < 10 → mI M' 22 0 i = bvS k (bsW T w v s ha Ls nb le k (bsN T w k)) i) → K (some (vJ (bsA (bsW T w v s ha Ls nb le k (bsN T w k))))) M') :
    CallS Ω true m_Best_search [vR (some (1, 0)), vR (some (7, t)), vR (some (10, 4 * t + w)), vI v, vI s, vI (nI k), vI le] M K := by
  obtain ⟨hn1, hn2, hn3, hst⟩ := hW.n
  have hk10 := k_1024 hk hn3
  obtain ⟨hN0, hN1⟩ := bsN_ok hW hk h4
  refine call_go (hJL rfl) (Nat.le_of_ble_eq_true rfl) (go_wp ok_Best_search [48] 250 _ _ _ _ _ _ ?_)
  conv => whnf
  refine ⟨fun r M' => r = none ∧ Un wTd M M' ∧ mI M' 1 0 5 = nI (btC k (wN T w)) ∧ (∀ i, i < wN T w → bt k i = true → TdI M' T w k i), c_tellStrips Ω M t w k T _ hW hC hk h4 (fun M' a b c => ⟨rfl, a, b, c⟩), trivial, ?_⟩
  rintro r M1 ⟨rfl, hU1, h5, hTd⟩
  conv => whnf
  refine cl_use (fun K h => c_fillI Ω true M1 22 0 10 (-1000) K rfl (by decide) (by decide) h) trivial ?_
  conv => whnf
  refine And.intro (Or.inl rfl) ?_
  conv => whnf
  generalize hM2 : sI (sFillI M1 22 0 10 (-1000)) 1 0 6 0 = M2
  have hU2 : Un (wSr t) M M2 := by
    rw [← hM2]
    exact ((hU1.mono wSr_Td).fI (fun _ => rfl)).pI rfl
  have hF2 : FdC M2 k none := by
    rw [← hM2]
    refine ⟨mI_eq, fun p e => (by cases e), fun i hi => ?_⟩
    rw [mI_ne rfl, mI_fillI, if_pos ⟨rfl, rfl, hi⟩]
    rfl
  have hTold : mI M2 1 0 5 = nI (btC k (wN T w)) ∧ ∀ i, i < wN T w → bt k i = true → TdI M2 T w k i := by
    rw [← hM2]
    exact ⟨h5, hTd⟩
  clear hM2 hTd h5
  have hC2 := hC.un' hU2 wSr_tx
  have hL2 := hL.un' hU2 wSr_tx
  refine ⟨fun r M' => r = none ∧ Un wSo M2 M' ∧ CE M' t (T, w, v, 0, bsS T w s ha (fun _ => 0), fun _ => 0) ∧ (∀ i, i < wN T w → mI M' 38 0 i = T 95 (10 * w + i)) ∧ ∀ i, i < 10 → mJ M' 40 0 i = 0, c_setOut Ω M2 t w 44 t 37 T v s ha (fun _ => 0) _ hW hC2 hL2 (fun j hj => (hU2.I rfl).trans (hSt.2.2.1 j hj)) rfl rfl (fun _ => rfl) (fun _ => rfl) (fun h h4 => (hU2.I rfl).trans (h44 h h4)) (fun i hi => (hU2.I rfl).trans (hSt.1 i hi)) (fun M' a b c d e => ⟨rfl, a, b, d, e⟩), trivial, ?_⟩
  rintro r M3 ⟨rfl, hU3, hE3, h38, h40⟩
  have hU3' : Un (wSr t) M M3 := hU2.trans (hU3.mono (fun k i s h => wJg_So k i s (wSr_Jg k i s h)))
  conv => whnf
  have h18' : ∀ j, j < btC k (wN T w) → mI M3 18 0 j = nI (mj k j) ∧ mI M3 19 0 j = tv (ao T w k j) (dlo (ao T w k j)) ∧ mI M3 20 0 j = tv (ao T w k j) (dhi (ao T w k j)) ∧ mI M3 21 0 j = tv (ao T w k j) (dlo (ao T w k j)) := fun j hj => by
    obtain ⟨m1, m2, m3⟩ := mj_j hk10 hn3 hj
    obtain ⟨q1, q2, q3, q4⟩ := hTold.2 _ m1 m2
    rw [m3] at q1 q2 q3 q4
    exact ⟨(hU3.I rfl).trans q1, (hU3.I rfl).trans q2, (hU3.I rfl).trans q3, (hU3.I rfl).trans q4⟩
  have ha61 : ∀ j, j < btC k (wN T w) → ao T w k j < 61 := fun j hj => (ao_ok hW hk hj).1
  -- the end of the search
  have fin : ∀ (M4 : Mem) (x : Int32), Un (wSr t) M M4 → FdC M4 k (bsW T w v s ha Ls nb le k (bsN T w k)) → GoS Ω true m_Best_search K 81 [some (vR (some (1, 0))), some (vR (some (7, t))), some (vR (some (10, 4 * t + w))), some (vI v), some (vI s), some (vI (nI k)), some (vI le), some (vI x)] [] M4 0 0 := by
    intro M4 x hU hF
    have hK := hK M4 hU hF.2.2
    refine go_wp ok_Best_search [] 250 _ _ _ _ _ _ ?_
    generalize bsW T w v s ha Ls nb le k (bsN T w k) = B at hF hK
    have h16 := hF.1
    cases B with
    | none =>
      have h16 : mI M4 1 0 6 = 0 := h16
      conv => whnf
      rw [h16]
      refine And.intro (fun _ => ?_) (fun e => absurd rfl e)
      conv => whnf
      exact hK
    | some p =>
      have h16 : mI M4 1 0 6 = 1 := h16
      conv => whnf
      rw [h16]
      refine And.intro (fun e => absurd e (by decide)) (fun _ => ?_)
      conv => whnf
      rw [hF.2.1 p rfl]
      exact hK
  have lp : ∀ (f c : Nat) (M4 : Mem) (tw0 : Nat → Int32), c + f = 625 → c < bsN T w k → Un (wSr t) M M4 → SoC M4 t w T s ha tw0 → (∀ i, i < wN T w → (-30 ≤ (tw0 i).toInt ∧ (tw0 i).toInt ≤ 30) ∧ (bt k i = false → tw0 i = T 95 (10 * w + i))) → mI M4 1 0 5 = nI (btC k (wN T w)) →
      (∀ j, j < btC k (wN T w) → mI M4 18 0 j = nI (mj k j) ∧ mI M4 19 0 j = tv (ao T w k j) (dlo (ao T w k j)) ∧ mI M4 20 0 j = tv (ao T w k j) (dhi (ao T w k j))) → Trl M4 (btC k (wN T w)) (ao T w k) (dF (loF T w k) (nnF T w k) (btC k (wN T w)) c) → FdC M4 k (bsW T w v s ha Ls nb le k c) →
      GoS Ω true m_Best_search K 48 [some (vR (some (1, 0))), some (vR (some (7, t))), some (vR (some (10, 4 * t + w))), some (vI v), some (vI s), some (vI (nI k)), some (vI le), some (vI (nI c))] [] M4 0 0 := by
    intro f
    induction f with
    | zero => intro c M4 tw0 hf hc; omega
    | succ f ih =>
      intro c M4 tw0 hf hc hU hS h0 h5 h18 hT hF
      have hJS : ∀ k i s, wSr t k i s = false → wJg t k i s = false := wSr_Jg
      refine go_wp ok_Best_search [48, 81] 250 _ _ _ _ _ _ ?_
      refine And.intro (fun a => absurd a (nI_ge (b := 625) (by omega) (by decide))) (fun _ => ?_)
      conv => whnf
      refine ⟨fun r M' => r = none ∧ Un (wJg t) M4 M' ∧ SoC M' t w T s ha (twD T w k (dF (loF T w k) (nnF T w k) (btC k (wN T w)) c)) ∧ FdC M' k (bsW T w v s ha Ls nb le k (c + 1)), c_judge Ω M4 t w k nb T v s le ha tw0 Ls (dF (loF T w k) (nnF T w k) (btC k (wN T w)) c) (bsW T w v s ha Ls nb le k c) _ hW (hC.un' hU wSr_tx) (hL.un' hU wSr_tx) (fun j hj => (hU.I rfl).trans (hSt.2.2.1 j hj)) hs hha hk h4 hS h0 h5 (fun j hj => (h18 j hj).1) hT (dF_ok hW hk hc) hF hnb ((hU.I (wSr_tx _ _ _ rfl)).trans hbc) (fun q hq => ⟨(hB q hq).1, (hB q hq).2.un' hU wSr_tx⟩) (fun M' a b c => ⟨rfl, a, b, c⟩), trivial, ?_⟩
      rintro r M5 ⟨rfl, hU5, hS5, hF5⟩
      have hU5' := hU.trans (hU5.mono wSr_Jg)
      have e15 : mI M5 1 0 5 = nI (btC k (wN T w)) := (hU5.I (by simp [wJg, wSo, wFb, wBr, wFd, nb_d, nl_d])).trans h5
      have e18 : ∀ q j, (q = 18 ∨ q = 19 ∨ q = 20 ∨ q = 21) → mI M5 q 0 j = mI M4 q 0 j := fun q j h => by
        rcases h with rfl | rfl | rfl | rfl <;> exact hU5.I rfl
      conv => whnf
      refine ⟨fun r M' => Un wTr4 M5 M' ∧ ((r = some (vI 1) ∧ c + 1 < bsN T w k ∧ Trl M' (btC k (wN T w)) (ao T w k) (dF (loF T w k) (nnF T w k) (btC k (wN T w)) (c + 1))) ∨ (r = some (vI 0) ∧ c + 1 = bsN T w k)), c_stepOn Ω M5 (btC k (wN T w)) (ao T w k) c _ h4 e15 ha61 (fun j hj => (e18 _ _ (by omega)).trans (h18 j hj).2.1) (fun j hj => (e18 _ _ (by omega)).trans (h18 j hj).2.2) hc (fun j hj => (e18 _ _ (by omega)).trans (hT j hj)) (fun z M' a b => ⟨a, Or.inl ⟨rfl, z, b⟩⟩) (fun z M' a => ⟨a, Or.inr ⟨rfl, z⟩⟩), trivial, ?_⟩
      rintro r M6 ⟨hU6, ⟨rfl, hc1, hT6⟩ | ⟨rfl, hc1⟩⟩
      · refine And.intro (fun _ => ?_) (fun e => absurd e (by decide))
        conv => whnf
        have := ih (c + 1) M6 _ (by omega) hc1 (hU5'.trans (hU6.mono wSr_4)) (hS5.un hU6 (fun k s h => by simp [wTr4, nb_d]; omega)) (twD_ok hW hk (dF_ok hW hk hc)) ((hU6.I rfl).trans e15) (fun j hj => ⟨(hU6.I rfl).trans ((e18 _ _ (by omega)).trans (h18 j hj).1), (hU6.I rfl).trans ((e18 _ _ (by omega)).trans (h18 j hj).2.1), (hU6.I rfl).trans ((e18 _ _ (by omega)).trans (h18 j hj).2.2)⟩) hT6 (hF5.un hU6 rfl rfl (fun _ => rfl))
        rw [← nI_1] at this
        exact this
      · refine And.intro (fun e => absurd rfl e) (fun _ => ?_)
        conv => whnf
        have hF6 := hF5.un hU6 rfl rfl (fun _ => rfl)
        rw [hc1] at hF6
        exact fin M6 _ (hU5'.trans (hU6.mono wSr_4)) hF6
  refine lp 625 0 M3 (fun i => T 95 (10 * w + i)) rfl hN0 hU3' ⟨⟨hE3.1, hE3.2.1, hE3.2.2.1⟩, fun i hi => ⟨hE3.2.2.2.2.2.1 i hi, h38 i hi⟩, h40⟩ (fun i hi => ⟨(hst i hi).2.2.2.1, fun _ => rfl⟩) ((hU3.I rfl).trans hTold.1) (fun j hj => ⟨(h18' j hj).1, (h18' j hj).2.1, (h18' j hj).2.2.1⟩) (fun j hj => ?_) (hF2.un hU3 rfl rfl (fun _ => rfl))
  rw [dF_0 _ j hj]
  exact (h18' j hj).2.2.2
