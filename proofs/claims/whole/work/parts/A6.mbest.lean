/-! BEST, the model's -/
def wMb (k i s : Nat) : Bool := wQm k i s || (wBm k i s || (Nat.beq k 132 || Nat.beq k 133))
theorem wMb_q : ∀ k i s, wMb k i s = false → wQm k i s = false := fun k i s h => (Bool.or_eq_false_iff.mp h).1
theorem wMb_b : ∀ k i s, wMb k i s = false → wBm k i s = false := fun k i s h => (Bool.or_eq_false_iff.mp (Bool.or_eq_false_iff.mp h).2).1
theorem wMb_2 : ∀ k i s, wMb k i s = false → w132 k i s = false := fun k i s h => (Bool.or_eq_false_iff.mp (Bool.or_eq_false_iff.mp (Bool.or_eq_false_iff.mp h).2).2).1
theorem wMb_st : ∀ k i s, wMb k i s = false → wSt k i s = false := fun k i s h => wQm_st k i s (wMb_q k i s h)
theorem wMb_rm : ∀ k i s, wMb k i s = false → wRm k i s = false := fun k i s h => wQm_rm k i s (wMb_q k i s h)
theorem wMb_8 : ∀ k i s, wMb k i s = false → w118 k i s = false := fun k i s h => by
  have := wMb_st k i s h
  simp [wSt, w118, nb_d, nl_d] at this ⊢
  omega
theorem wMb_tx : Av cTx wMb := fun k i s h => by
  simp [cTx, wMb, wQm, wRm, wSt, wBm, nb_d, nl_d] at h ⊢
  omega
/-- the best of the first ways, as the model goes -/
def kgW (T : Tx) (w : Nat) (v s : Int32) (ha : Nat → Int32) (Ls : Nat → List Lt) (nb : Nat) (le : Int32) (k : Nat) (c : Nat) : Option (Int64 × (Nat → Int32)) := foN (fun c b => if kG (loF T w k) (nnF T w k) (btC k (wN T w)) c = true then juS T w v s ha Ls nb le.toInt64 (twD T w k (kF (btC k (wN T w)) c)) b else b) c none
theorem kgW_all {T : Tx} {w k nb : Nat} {v s le : Int32} {ha : Nat → Int32} {Ls : Nat → List Lt} (hW : WgOK T w) (hk : k < 2 ^ wN T w) : kgW T w v s ha Ls nb le k (5 ^ btC k (wN T w)) = bsW T w v s ha Ls nb le k (bsN T w k) :=
  dF_eq (loF T w k) (nnF T w k) (btC k (wN T w)) (fun j hj => by
    have h := dnn_ok (ao_ok hW hk hj).1
    show dlo (ao T w k j) + dnn (ao T w k j) ≤ 5
    omega) (fun d b => juS T w v s ha Ls nb le.toInt64 (twD T w k d) b) none
set_option maxHeartbeats 4000000 in
set_option maxRecDepth 8000 in
theorem mb_loop {Ω : Om} {K : Ka} {M : Mem} {o : Option Nat} {x v s le : Int32} {t w k nl nh nw nb : Nat} {Ls : Nat → List Lt} (hY : RwY M o x t w) (ht : t < 4) (hX : TxC M t nl nh nw nb Ls) (hk : k < 2 ^ wN (pg M t) w) (h4 : btC k (wN (pg M t) w) ≤ 4)
    (hK : ∀ M', Un wMb M M' → (∀ i, i < 10 → mI M' 132 0 i = bvS k (kgW (pg M t) w v s (pg M t 83) Ls nb le k (5 ^ btC k (wN (pg M t) w))) i) → K (some (vJ (bsA (kgW (pg M t) w v s (pg M t 83) Ls nb le k (5 ^ btC k (wN (pg M t) w)))))) M') :
    ∀ (f way : Nat) (M4 : Mem) (dr : Int64) (r13 r14 r15 r16 r17 : Option Vl), way + f = 5 ^ btC k (wN (pg M t) w) → Un wMb M M4 → (∀ p, kgW (pg M t) w v s (pg M t 83) Ls nb le k way = some p → dr = p.1) → (∀ i, i < 10 → mI M4 132 0 i = bvS k (kgW (pg M t) w v s (pg M t 83) Ls nb le k way) i) → (∀ j, j < btC k (wN (pg M t) w) → mI M4 133 0 j = nI (mj k j)) →
      GoS Ω true m_MD_best K 168 (bL x v s le k (4 * t + w) (btC k (wN (pg M t) w)) (some (vI (nI (5 ^ btC k (wN (pg M t) w))))) (some (vI (bI (kgW (pg M t) w v s (pg M t 83) Ls nb le k way).isSome))) (some (vJ dr)) (some (vI (nI way))) r13 r14 r15 r16 r17) [] M4 0 0 := by
  obtain ⟨hW, hC, hL, -, -⟩ := hY.ok
  have hw4 := hY.w4
  have hnb : nb ≤ 8 := hX.1.2.2.2.2.1.2.2.2
  generalize hT : pg M t = T at *
  obtain ⟨hn1, hn2, hn3, hst⟩ := hW.n
  have h5m : 5 ^ btC k (wN T w) ≤ 625 := Nat.pow_le_pow_right (n := 5) (by decide) h4
  generalize hm : btC k (wN T w) = m at *
  intro f
  induction f with
  | zero =>
    intro way M4 dr r13 r14 r15 r16 r17 hf hU hdr h132 h133
    have hf : way = 5 ^ m := hf
    subst hf
    have hK := hK M4 hU h132
    refine go_wp ok_MD_best [] 250 _ _ _ _ _ _ ?_
    refine And.intro (fun _ => ?_) (fun a => absurd (Int32.le_refl _) a)
    generalize kgW T w v s (T 83) Ls nb le k (5 ^ m) = B at hK hdr
    cases B with
    | none =>
      refine And.intro (fun _ => ?_) (fun e => absurd rfl e)
      conv => whnf
      exact hK
    | some p =>
      refine And.intro (fun e => absurd e (show ¬ (1 : Int32) = 0 by decide)) (fun _ => ?_)
      conv => whnf
      rw [hdr p rfl]
      exact hK
  | succ f ih =>
    intro way M4 dr r13 r14 r15 r16 r17 hf hU hdr h132 h133
    have hway : way < 625 := by omega
    have ep : pg M4 t = T := (pg_av hU wMb_tx t).trans hT
    have ekg : kgW T w v s (T 83) Ls nb le k (way + 1) = if kG (loF T w k) (nnF T w k) m way = true then juS T w v s (T 83) Ls nb le.toInt64 (twD T w k (kF m way)) (kgW T w v s (T 83) Ls nb le k way) else kgW T w v s (T 83) Ls nb le k way := by
      rw [← hm]; rfl
    have go380 : ∀ (M5 : Mem) (b' : Option (Int64 × (Nat → Int32))) (dr' : Int64) (r13 r14 r15 r16 r17 : Option Vl), Un wMb M M5 → b' = kgW T w v s (T 83) Ls nb le k (way + 1) → (∀ p, b' = some p → dr' = p.1) → (∀ i, i < 10 → mI M5 132 0 i = bvS k b' i) → (∀ j, j < m → mI M5 133 0 j = nI (mj k j)) → GoS Ω true m_MD_best K 380 (bL x v s le k (4 * t + w) m (some (vI (nI (5 ^ m)))) (some (vI (bI b'.isSome))) (some (vJ dr')) (some (vI (nI way))) r13 r14 r15 r16 r17) [] M5 0 0 := by
      rintro M5 b' dr' r13 r14 r15 r16 r17 hU5 rfl hdr' h132' h133'
      refine go_wp ok_MD_best [168] 250 _ _ _ _ _ _ ?_
      conv => whnf
      have := ih (way + 1) M5 dr' r13 r14 r15 r16 r17 (by omega) hU5 hdr' h132' h133'
      rw [← nI_1] at this
      exact this
    generalize kgW T w v s (T 83) Ls nb le k way = b at hdr h132 ekg
    refine go_wp ok_MD_best [198] 250 _ _ _ _ _ _ ?_
    refine And.intro (fun a => absurd a (nI_ge (a := way) (b := 5 ^ m) (by omega) (by omega))) (fun _ => ?_)
    conv => whnf
    refine ⟨fun r M' => r = none ∧ Un wSt M4 M' ∧ ME M' t (T, w, v, 0, bsS T w s (hxS 1 (T 83)) (hxS 0 (fun i => mI M4 112 0 i)), fun _ => 0) ∧ (∀ i, i < wN T w → mI M' 118 0 i = T 95 (10 * w + i)) ∧ mI M' 12 0 74 = s ∧ mI M' 12 0 78 = 1 ∧ mI M' 12 0 79 = 0 ∧ mI M' 12 0 76 = -1, c_MD_stands Ω M4 t w v s 1 0 _ ht hw4 (by rw [ep]; exact hW) (Or.inr rfl) (Or.inl rfl) (fun M' p1 p2 p3 p4 p5 p6 p7 _ => ⟨rfl, p1, by rw [ep] at p2; exact p2, by rw [ep] at p3; exact p3, p4, p5, p6, p7⟩), trivial, ?_⟩
    rintro r M5 ⟨rfl, hU5, hE5, h118, h74, h78, h79, h76⟩
    have hU5' : Un wMb M M5 := hU.trans (hU5.mono wMb_st)
    conv => whnf
    have h133b : ∀ j, j < m → mI M5 133 0 j = nI (mj k j) := fun j hj => (hU5.I rfl).trans (h133 j hj)
    have ml := @mt_loop Ω K M5 w k (4 * t + w) way T x v s le (some (vI (nI (5 ^ m)))) (some (vI (bI b.isSome))) (some (vJ dr)) r16 r17 (nI way) hW hk (by omega) hway h118 (by rw [hm]; exact h133b)
    rw [hm] at ml
    refine ml (fun M6 q13 q15 hU6 h118' => ?_)
    clear ml
    have hU6' : Un wMb M M6 := hU5'.trans (hU6.mono wMb_8)
    have ep6 : pg M6 t = T := (pg_av hU6' wMb_tx t).trans hT
    have h132b : ∀ i, i < 10 → mI M6 132 0 i = bvS k b i := fun i hi => (hU6.I rfl).trans ((hU5.I rfl).trans (h132 i hi))
    have h133c : ∀ j, j < m → mI M6 133 0 j = nI (mj k j) := fun j hj => (hU6.I rfl).trans (h133b j hj)
    cases hkg : kG (loF T w k) (nnF T w k) m way with
    | false =>
      rw [hkg, if_neg (by decide)] at ekg
      refine go_wp ok_MD_best [380] 250 _ _ _ _ _ _ ?_
      refine And.intro (fun e => absurd rfl e) (fun _ => ?_)
      conv => whnf
      exact go380 M6 b dr _ _ _ _ _ hU6' ekg.symm hdr h132b h133c
    | true =>
      rw [hkg, if_pos rfl] at ekg
      generalize htw : twD T w k (kF m way) = tw at ekg h118'
      have hE6 : ME M6 t (evB T w v s (T 83) tw) := by
        refine ⟨⟨ht, hw4, ep6.symm⟩, (hU6.I rfl).trans hE5.2.1, (hU6.I rfl).trans hE5.2.2.1, (hU6.I rfl).trans hE5.2.2.2.1, (hU6.I rfl).trans hE5.2.2.2.2.1, fun i hi => ?_, Or.inl ⟨(hU6.I rfl).trans h76, fun _ _ => rfl⟩⟩
        rw [hU6.I (k := 12) (s := 74) rfl, hU6.I (k := 12) (s := 78) rfl, hU6.I (k := 12) (s := 79) rfl, h74, h78, h79, h118' i hi, if_neg (show ¬ (1 : Int32) = 0 by decide), if_pos (show (0 : Int32) = 0 from rfl), ep6]
        rfl
      have out : ∀ (M7 : Mem) (r13 r14 r15 r16 r17 : Option Vl), Un wMb M M7 → (∀ i, i < 10 → mI M7 132 0 i = bvS k b i) → (∀ j, j < m → mI M7 133 0 j = nI (mj k j)) → ((!(decide (rnR (evB T w v s (T 83) tw) z0 = -2)) && decide (le.toInt64 ≤ liS (wN T w) v (rnG (evB T w v s (T 83) tw) z0))) && (!(bbS T w v s (T 83) tw Ls nb) && leB (bdS T w v s (T 83) tw) b)) = false → GoS Ω true m_MD_best K 380 (bL x v s le k (4 * t + w) m (some (vI (nI (5 ^ m)))) (some (vI (bI b.isSome))) (some (vJ dr)) (some (vI (nI way))) r13 r14 r15 r16 r17) [] M7 0 0 := fun M7 r13 r14 r15 r16 r17 hU7 a1 a2 hz => go380 M7 b dr _ _ _ _ _ hU7 (by rw [ekg, juS_no hz]) hdr a1 a2
      refine go_wp ok_MD_best [333, 380] 250 _ _ _ _ _ _ ?_
      refine And.intro (fun _ => ?_) (fun e => absurd e (by decide))
      conv => whnf
      refine ⟨fun r M' => r = none ∧ Un wGm M6 M' ∧ (∀ i, i < 10 → mJ M' 113 0 i = 0), c_MD_rests Ω M6 _ (fun M' a b => ⟨rfl, a, b⟩), trivial, ?_⟩
      rintro r M7 ⟨rfl, hU7, h113⟩
      have hE7 := hE6.un (hU7.mono wGm_rm)
      conv => whnf
      refine ⟨fun r M' => r = some (vI (rnR (evB T w v s (T 83) tw) z0)) ∧ Un wRm M7 M' ∧ (¬ rnR (evB T w v s (T 83) tw) z0 = -2 → MF M' (wN T w) (rnG (evB T w v s (T 83) tw) z0) (dnS (evB T w v s (T 83) tw) (rnG (evB T w v s (T 83) tw) z0)) (bnS (evB T w v s (T 83) tw) (rnG (evB T w v s (T 83) tw) z0)) (anS (evB T w v s (T 83) tw) (rnG (evB T w v s (T 83) tw) z0))), c_MD_rounds Ω M7 t (evB T w v s (T 83) tw) z0 _ hE7 (evB_ok hW) (fun i hi => h113 i (by have hi : i < wN T w := hi; omega)) (fun M' a b => ⟨rfl, a, b⟩), trivial, ?_⟩
      rintro r M8 ⟨rfl, hU8, hMF⟩
      have hE8 := hE7.un hU8
      have hU68 : Un wMb M6 M8 := (hU7.mono (fun k i s h => wGm_rm k i s (wMb_rm k i s h))).trans (hU8.mono wMb_rm)
      have hU8' : Un wMb M M8 := hU6'.trans hU68
      have ep8 : pg M8 t = T := (pg_av hU8' wMb_tx t).trans hT
      have h132c : ∀ i, i < 10 → mI M8 132 0 i = bvS k b i := fun i hi => (hU8.I rfl).trans ((hU7.I rfl).trans (h132b i hi))
      have h133d : ∀ j, j < m → mI M8 133 0 j = nI (mj k j) := fun j hj => (hU8.I rfl).trans ((hU7.I rfl).trans (h133c j hj))
      have h118c : ∀ i, i < wN T w → mI M8 118 0 i = tw i := fun i hi => (hU8.I rfl).trans ((hU7.I rfl).trans (h118' i hi))
      refine And.intro (fun z => ?_) (fun z => ?_)
      · exact out M8 _ _ _ _ _ hU8' h132c h133d (by rw [decide_eq_true z]; rfl)
      have hMF := hMF z
      have e71 := hE8.2.1
      have e72 : mI M8 12 0 72 = nI (wN T w) := hE8.2.2.1
      have e73 : mI M8 12 0 73 = v := hE8.2.2.2.1
      conv => whnf
      refine cl_use (fun K h => c_MD_flift Ω M8 _ v _ K hn3 e72 e73 (fun i hi => (hMF i hi).1) h) trivial ?_
      refine And.intro (fun g => ?_) (fun g => ?_)
      · have g := (lg_cmp_lt _ _).mp g
        exact out M8 _ _ _ _ _ hU8' h132c h133d (by rw [decide_eq_false (Int64.not_le.mpr g), Bool.and_false]; rfl)
      have g : le.toInt64 ≤ liS (wN T w) v (rnG (evB T w v s (T 83) tw) z0) := Int64.not_lt.mp (fun q => g ((lg_cmp_lt _ _).mpr q))
      conv => whnf
      have hX8 := hX.un hU8' wMb_tx
      refine ⟨fun r M' => r = some (vI (fcB (fbS Ls nb (vrS (wN T w) v (fun i => T 92 (10 * w + i)) tw (rnG (evB T w v s (T 83) tw) z0) (dnS (evB T w v s (T 83) tw) (rnG (evB T w v s (T 83) tw) z0)) (bnS (evB T w v s (T 83) tw) (rnG (evB T w v s (T 83) tw) z0)) (anS (evB T w v s (T 83) tw) (rnG (evB T w v s (T 83) tw) z0))) (wN T w) 0))) ∧ Un wBm M8 M', c_barNow Ω M8 t w (wN T w) nb v (fun i => T 92 (10 * w + i)) tw _ _ _ _ Ls _ ht hw4 hn3 hnb e71 e72 e73 hMF (fun i hi => by rw [pgI (M := M8) (p := t) (f := 92) (a := 10 * w + i) rfl (show 10 * (4 * t + w) + i = 40 * t + (10 * w + i) by omega), ep8]) h118c (by rw [pg1 (M := M8) (f := 97) (p := t) rfl rfl]; exact hX8.1.2.2.2.1) (fun q hq => ⟨(hX8.2.2 q hq).1, (hX8.2.2 q hq).2.2⟩) (fun M' a _ => ⟨rfl, a⟩), trivial, ?_⟩
      rintro r M9 ⟨rfl, hU9⟩
      have hU9' : Un wMb M M9 := hU8'.trans (hU9.mono wMb_b)
      have ep9 : pg M9 t = T := (pg_av hU9' wMb_tx t).trans hT
      have h132d : ∀ i, i < 10 → mI M9 132 0 i = bvS k b i := fun i hi => (hU9.I rfl).trans (h132c i hi)
      have h133e : ∀ j, j < m → mI M9 133 0 j = nI (mj k j) := fun j hj => (hU9.I rfl).trans (h133d j hj)
      have eb : bbS T w v s (T 83) tw Ls nb = (fbS Ls nb (vrS (wN T w) v (fun i => T 92 (10 * w + i)) tw (rnG (evB T w v s (T 83) tw) z0) (dnS (evB T w v s (T 83) tw) (rnG (evB T w v s (T 83) tw) z0)) (bnS (evB T w v s (T 83) tw) (rnG (evB T w v s (T 83) tw) z0)) (anS (evB T w v s (T 83) tw) (rnG (evB T w v s (T 83) tw) z0))) (wN T w) 0).isSome := rfl
      generalize hFF : fbS Ls nb (vrS (wN T w) v (fun i => T 92 (10 * w + i)) tw (rnG (evB T w v s (T 83) tw) z0) (dnS (evB T w v s (T 83) tw) (rnG (evB T w v s (T 83) tw) z0)) (bnS (evB T w v s (T 83) tw) (rnG (evB T w v s (T 83) tw) z0)) (anS (evB T w v s (T 83) tw) (rnG (evB T w v s (T 83) tw) z0))) (wN T w) 0 = F at eb
      cases F with
      | some q =>
        obtain ⟨i, j⟩ := q
        have hb := fbS_lt hFF
        refine And.intro (fun e => absurd e (nI_nm1 (n := j) (by omega))) (fun _ => ?_)
        conv => whnf
        exact out M9 _ _ _ _ _ hU9' h132d h133e (by rw [eb]; simp)
      | none =>
        refine And.intro (fun _ => ?_) (fun e => absurd rfl e)
        conv => whnf
        refine cl_use (fun K h => c_MD_fdrag Ω M9 t w v (rnG (evB T w v s (T 83) tw) z0) (dnS (evB T w v s (T 83) tw) (rnG (evB T w v s (T 83) tw) z0)) (anS (evB T w v s (T 83) tw) (rnG (evB T w v s (T 83) tw) z0)) K ht hw4 (by rw [ep9]; exact hW) ((hU9.I rfl).trans e71) (by rw [ep9]; exact (hU9.I rfl).trans e72) ((hU9.I rfl).trans e73) (fun i hi => by
          rw [ep9] at hi
          exact ⟨(hU9.J rfl).trans (hMF i hi).1, (hU9.J rfl).trans (hMF i hi).2.1, (hU9.J rfl).trans (hMF i hi).2.2.2⟩) h) trivial ?_
        rw [ep9]
        conv => whnf
        have e333 : leB (bdS T w v s (T 83) tw) b = true → GoS Ω true m_MD_best K 333 (bL x v s le k (4 * t + w) m (some (vI (nI (5 ^ m)))) (some (vI (bI b.isSome))) (some (vJ dr)) (some (vI (nI way))) q13 (some (vI (bI true))) (some (vJ (bdS T w v s (T 83) tw))) none r17) [] M9 0 0 := by
          intro hl
          refine go_wp ok_MD_best [340] 250 _ _ _ _ _ _ ?_
          conv => whnf
          have mk := @mk_loop Ω K M9 w k (4 * t + w) T x v s le (kF m way) (bdS T w v s (T 83) tw) b (some (vI (nI (5 ^ m)))) (some (vI 1)) (some (vJ (bdS T w v s (T 83) tw))) (some (vI (nI way))) q13 (some (vI (bI true))) (some (vJ (bdS T w v s (T 83) tw))) none r17 hW hk (by omega) (fun i hi => (by rw [htw]; exact (hU9.I rfl).trans (h118c i hi))) (by rw [hm]; exact h133e) h132d
          rw [hm, htw] at mk
          refine mk (fun M10 q17 hU10 h132e => ?_)
          exact go380 M10 (some (bdS T w v s (T 83) tw, tw)) _ _ _ _ _ _ (hU9'.trans (hU10.mono wMb_2)) (by rw [ekg, juS_yes (by rw [decide_eq_false z, decide_eq_true g, eb, hl]; rfl)]) (fun p e => by cases e; rfl) h132e (fun j hj => (hU10.I rfl).trans (h133e j hj))
        cases b with
        | none =>
          refine And.intro (fun _ => ?_) (fun e => absurd rfl e)
          conv => whnf
          exact e333 rfl
        | some p =>
          refine And.intro (fun e => absurd e (show ¬ (1 : Int32) = 0 by decide)) (fun _ => ?_)
          conv => whnf
          rw [hdr p rfl]
          refine And.intro (fun e => ?_) (fun e => ?_)
          · have e := (lg_cmp_lt _ _).mp e
            rw [hdr p rfl] at e333
            exact e333 (decide_eq_true e)
          · have e : ¬ _ < _ := fun q => e ((lg_cmp_lt _ _).mpr q)
            conv => whnf
            have hz : leB (bdS T w v s (T 83) tw) (some p) = false := decide_eq_false e
            have := out M9 q13 (some (vI (bI true))) (some (vJ (bdS T w v s (T 83) tw))) none r17 hU9' h132d h133e (by rw [hz]; simp)
            rw [hdr p rfl] at this
            exact this
