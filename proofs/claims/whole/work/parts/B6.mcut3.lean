/-! READ: tokens, the model's, IV: cut -/
theorem mkK_3 : mkK 1 = 3 := rfl
set_option maxHeartbeats 2000000 in
theorem c_MD_cut (Ω : Om) (M : Mem) (B : Nat → Nat) (n : Nat) (K : Ka) (hT : TpM M B n) (hK : ∀ M', Un wTb M M' → (∀ i, rch B n i → TkI M' B n i) → K none M') : CallS Ω true m_MD_cut [vR (some (12, 0))] M K := by
  have hn := hT.2.1
  have hBt := hT.2.2.1
  have lp : ∀ (f i a : Nat) (M1 : Mem) (r2 r3 r4 r5 r6 r7 : Option Vl), i ≤ 501 → a ≤ n → (501 - i) + (n - a) ≤ f → Un wTb M M1 → mI M1 12 0 10 = nI i → skR B n (n - a) a = psS B n i → (∀ j, j < i → TkI M1 B n j) → GoS Ω true m_MD_cut K 7 [some (vR (some (12, 0))), some (vI (nI a)), r2, r3, r4, r5, r6, r7] [] M1 0 0 := by
    intro f
    induction f with
    | zero =>
      intro i a M1 r2 r3 r4 r5 r6 r7 hi ha hf hU h10 hs hA
      have hi : i = 501 := by omega
      subst hi
      refine go_wp ok_MD_cut [] 250 _ _ _ _ _ _ ?_
      conv => whnf
      rw [h10]
      refine And.intro (fun _ => ?_) (fun q => absurd (show (500 : Int32) < nI 501 by decide) q)
      exact hK M1 hU (fun j hj => hA j (by have := hj.1; omega))
    | succ f ih =>
      intro i a M1 r2 r3 r4 r5 r6 r7 hi ha hf hU h10 hs hA
      have hT1 := hT.tb hU
      refine go_wp ok_MD_cut [85, 146, 179, 208, 250, 291] 250 _ _ _ _ _ _ ?_
      conv => whnf
      rw [h10]
      refine And.intro (fun q => ?_) (fun q => ?_)
      · have q : nI 500 < nI i := q
        rw [nI_ltI (by omega) (by omega)] at q
        exact hK M1 hU (fun j hj => hA j (by have := hj.1; omega))
      have q : ¬ nI 500 < nI i := q
      rw [nI_ltI (by omega) (by omega)] at q
      have hi5 : i ≤ 500 := by omega
      clear q
      conv => whnf
      refine cl_use (fun K h => c_MD_at Ω M1 B n a K hT1 (by omega) h) trivial ?_
      conv => whnf
      rw [hT1.1]
      refine And.intro (fun q => ?_) (fun q => ?_)
      rotate_left
      · -- the end
        rw [nI_ltI (by omega) (by omega)] at q
        have e1 : psS B n i = n := by
          rw [← hs, show n - a = 0 by omega]
          show a = n
          omega
        have e2 : tkK B n i = 0 := ((tokAt_ge (B := B) (ps_le B n i)).2.2).mpr (by rw [e1]; omega)
        conv => whnf
        rw [hT1.1]
        refine cl_use (fun K h => c_MD_token Ω M1 i 0 (nI n) 0 0 K (by omega) h10 h) trivial ?_
        have hM := @tkM_at M1 i 0 n 0 0
        refine hK (tkM M1 i 0 n 0 0) (hU.trans tkM_un) (fun j hj => ?_)
        have : j ≤ i := by
          refine Nat.le_of_not_lt (fun q => ?_)
          have := hj.2 i q
          omega
        by_cases e : j = i
        · rw [e]
          refine ⟨?_, ?_, fun z => ?_, fun z => ?_⟩
          · rw [hM.1, e2]; rfl
          · rw [hM.2.1, e1]
          · rw [e2] at z; cases z
          · rw [e2] at z; cases z
        · exact (hA j (by omega)).new e
      rw [nI_ltI (by omega) (by omega)] at q
      have hB := (hBt a q).2
      have eb : bZ B n a = nI (B a) := if_pos q
      have ebl : Nat.ble (a + 1) n = true := Nat.ble_eq.mpr q
      rw [eb]
      -- on to the next
      have nx : ∀ (M2 : Mem) (b : Nat) (r2 r3 r4 r5 r6 r7 : Option Vl), psS B n i = a → b = (tokAt B n a).2.2 → Un wTb M M2 → mI M2 12 0 10 = nI (i + 1) → (∀ j, j < i → TkI M2 B n j) → TkI M2 B n i → GoS Ω true m_MD_cut K 291 [some (vR (some (12, 0))), some (vI (nI b)), r2, r3, r4, r5, r6, r7] [] M2 0 0 := by
        rintro M2 b r2 r3 r4 r5 r6 r7 hp rfl hU2 h10' hA2 hi2
        have hg := (tokAt_ge (B := B) ha)
        have hlt := hg.2.1 (fun z => hg.2.2.mp z q)
        refine go_wp ok_MD_cut [7] 250 _ _ _ _ _ _ ?_
        refine ih (i + 1) (tokAt B n a).2.2 M2 r2 r3 r4 r5 r6 r7 (by omega) hg.1.2 (by omega) hU2 h10' ?_ (fun j hj => ?_)
        · rw [psS, hp]
        · rcases Nat.lt_succ_iff_lt_or_eq.mp hj with z | z
          · exact hA2 j z
          · rw [z]; exact hi2
      have blank : cBl (B a) = true → GoS Ω true m_MD_cut K 291 [some (vR (some (12, 0))), some (vI (nI (a + 1))), some (vI (nI (B a))), r3, r4, r5, r6, r7] [] M1 0 0 := by
        intro z
        refine go_wp ok_MD_cut [7] 250 _ _ _ _ _ _ ?_
        refine ih i (a + 1) M1 _ _ _ _ _ _ hi (by omega) (by omega) hU h10 ?_ hA
        rw [← hs, show n - a = n - (a + 1) + 1 by omega, skR, ebl, z]
        rfl
      have eqv : ∀ v, v < 256 → (nI (B a) = nI v ↔ B a = v) := fun v hv => nI_eq (by omega) (by omega)
      refine And.intro (fun z => ?_) (fun z1 => And.intro (fun z => ?_) (fun z2 => And.intro (fun z => ?_) (fun z3 => And.intro (fun z4 => ?_) (fun z => ?_))))
      · have z := (eqv 9 (by decide)).mp z
        conv => whnf
        have := blank (by rw [z]; rfl)
        rw [← nI_1] at this
        exact this
      · have z := (eqv 10 (by decide)).mp z
        conv => whnf
        have := blank (by rw [z]; rfl)
        rw [← nI_1] at this
        exact this
      · have z := (eqv 13 (by decide)).mp z
        conv => whnf
        have := blank (by rw [z]; rfl)
        rw [← nI_1] at this
        exact this
      rotate_left
      · have z := (eqv 32 (by decide)).mp z
        conv => whnf
        have := blank (by rw [z]; rfl)
        rw [← nI_1] at this
        exact this
      have nb : cBl (B a) = false := by
        unfold cBl
        rw [nb_d, nb_d, nb_d, nb_d, decide_eq_false (fun y => z1 (by rw [y]; rfl)), decide_eq_false (fun y => z2 (by rw [y]; rfl)), decide_eq_false (fun y => z3 (by rw [y]; rfl)), decide_eq_false (fun y => z4 (by rw [y]; rfl))]
        rfl
      have hp : psS B n i = a := by
        rw [← hs, show n - a = n - (a + 1) + 1 by omega, skR, nb, Bool.and_false]
        rfl
      have eL := bZ_le (B := B) (n := n) (i := a) (fun _ => hB)
      have eD := bZ_di (B := B) (n := n) (i := a) (fun _ => hB)
      rw [eb, ebl, Bool.true_and] at eL eD
      have tkI : ∀ (kd_ : Nat) (v : Int32) (nm : Int64), kd_ = mkK (tokAt B n a).1 → ((tokAt B n a).1 = 3 → v.toInt64 = (tokAt B n a).2.1) → ((tokAt B n a).1 = 2 → nm = (tokAt B n a).2.1) → TkI (tkM M1 i kd_ a v nm) B n i := by
        rintro kd_ v nm rfl h3 h2
        have hM := @tkM_at M1 i (mkK (tokAt B n a).1) a v nm
        unfold TkI tkK tkV
        rw [hp]
        exact ⟨hM.1, hM.2.1, fun y => by rw [hM.2.2.1]; exact h3 y, fun y => by rw [hM.2.2.2.1]; exact h2 y⟩
      conv => whnf
      refine cl_use (fun K h => c_MD_isLetter Ω M1 _ K h) trivial ?_
      rw [eL]
      refine br_bz (fun cl => ?_) (fun cl => ?_)
      · conv => whnf
        refine cl_use (fun K h => c_MD_isDigit Ω M1 _ K h) trivial ?_
        rw [eD]
        refine br_bz (fun cd => ?_) (fun cd => ?_)
        · -- a sign
          have et : tokAt B n a = (sgK (B a) (Nat.ble (a + 2) n && Nat.beq (B (a + 1)) 61), 0, a + sgL (B a) (Nat.ble (a + 2) n && Nat.beq (B (a + 1)) 61)) := by
            unfold tokAt
            rw [ebl, if_neg (by decide), cl, if_neg (by decide), cd, if_neg (by decide)]
          rw [et] at tkI nx
          conv => whnf
          rw [nI_1]
          refine cl_use (fun K h => c_MD_at Ω M1 B n (a + 1) K hT1 (by omega) h) trivial ?_
          conv => whnf
          refine cl_use (fun K h => c_MD_sign Ω M1 B n a i K hn q (fun j hj => (hBt j hj).2) (by omega) h10 h) trivial ?_
          conv => whnf
          rw [nI_add]
          have hv : ∀ (c : Nat) (e : Bool), ¬ sgK c e = 3 ∧ ¬ sgK c e = 2 := fun c e => by
            unfold sgK
            split
            · split <;> decide
            · split
              · split <;> decide
              · split
                · split <;> decide
                · split <;> omega
          refine nx _ _ _ _ _ _ _ _ hp rfl (hU.trans tkM_un) tkM_at.2.2.2.2 (fun j hj => (hA j hj).new (by omega)) (tkI _ 0 0 rfl (fun y => absurd y (hv _ _).1) (fun y => absurd y (hv _ _).2))
        · -- a number
          have et : tokAt B n a = (if 4 < (dgR B n (n - a) a 0 0).2.1 then (1, 0, (dgR B n (n - a) a 0 0).1) else (3, (nI (dgR B n (n - a) a 0 0).2.2).toInt64, (dgR B n (n - a) a 0 0).1)) := by
            unfold tokAt
            rw [ebl, if_neg (by decide), cl, if_neg (by decide), cd, if_pos rfl]
          conv => whnf
          refine mc_num hT1 ha (fun l v hl hd => ?_)
          rw [← hd] at et
          have go : ∀ kd_ : Nat, kd_ = mkK (tokAt B n a).1 → GoS Ω true m_MD_cut K 261 [some (vR (some (12, 0))), some (vI (nI a)), some (vI (nI (B a))), some (vI (nI l)), some (vI (nI v)), r5, r6, r7] [vI (nI kd_), vR (some (12, 0))] M1 0 0 := by
            intro kd_ hk
            refine go_wp ok_MD_cut [291] 250 _ _ _ _ _ _ ?_
            conv => whnf
            refine cl_use (fun K h => c_MD_token Ω M1 i _ _ _ 0 K (by omega) h10 h) trivial ?_
            conv => whnf
            rw [nI_add]
            refine nx (tkM M1 i kd_ a (nI v) 0) (a + l) _ _ _ _ _ _ hp ?_ (hU.trans tkM_un) tkM_at.2.2.2.2 (fun j hj => (hA j hj).new (by omega)) (tkI _ _ _ hk (fun y => ?_) (fun y => ?_))
            · rw [et]; split <;> rfl
            · rw [et] at y ⊢
              by_cases c4 : 4 < (a + l, l, v).2.1
              · rw [if_pos c4] at y; cases y
              · rw [if_neg c4]
            · rw [et] at y
              by_cases c4 : 4 < (a + l, l, v).2.1
              · rw [if_pos c4] at y; cases y
              · rw [if_neg c4] at y; cases y
          refine go_wp ok_MD_cut [261] 250 _ _ _ _ _ _ ?_
          refine And.intro (fun y => ?_) (fun y => ?_)
          · have y : nI l ≤ nI 4 := y
            rw [nI_leI (by omega) (by omega)] at y
            conv => whnf
            exact go 2 (by rw [et, if_neg (show ¬ 4 < (a + l, l, v).2.1 by show ¬ 4 < l; omega)]; rfl)
          · have y : ¬ nI l ≤ nI 4 := y
            rw [nI_leI (by omega) (by omega)] at y
            conv => whnf
            exact go 3 (by rw [et, if_pos (show 4 < (a + l, l, v).2.1 by show 4 < l; omega)]; rfl)
      · -- a word
        have et : tokAt B n a = (if 8 < (wdR B n (n - a) a 0 0).2.1 then (1, 0, (wdR B n (n - a) a 0 0).1) else (wkR (wdR B n (n - a) a 0 0).2.2 22 0, (wdR B n (n - a) a 0 0).2.2, (wdR B n (n - a) a 0 0).1)) := by
          unfold tokAt
          rw [ebl, if_neg (by decide), cl, if_pos rfl]
        conv => whnf
        refine mc_word hT1 ha (fun l w hl hd => ?_)
        have hwb := wd_bd (B := B) (n := n) (n - a) a 0 0 ⟨by decide, fun y => by omega⟩
        rw [← hd] at et hwb
        have hwb : wdB l w := hwb
        have k3 : ∀ w f i, ¬ wkR w f i = 3 := fun w f => by
          induction f with
          | zero => intro i y; cases y
          | succ f ih => intro i y; rw [wkR] at y; split at y; omega; exact ih _ y
        have fin : ∀ (kd_ : Nat) (r7 : Option Vl), kd_ = mkK (tokAt B n a).1 → GoS Ω true m_MD_cut K 179 [some (vR (some (12, 0))), some (vI (nI a)), some (vI (nI (B a))), some (vI (nI l)), some (vJ w), none, some (vI (nI kd_)), r7] [] M1 0 0 := by
          intro kd_ r7 hk
          refine go_wp ok_MD_cut [291] 250 _ _ _ _ _ _ ?_
          conv => whnf
          refine cl_use (fun K h => c_MD_token Ω M1 i _ _ 0 w K (by omega) h10 h) trivial ?_
          conv => whnf
          rw [nI_add]
          refine nx (tkM M1 i kd_ a 0 w) (a + l) _ _ _ _ _ _ hp ?_ (hU.trans tkM_un) tkM_at.2.2.2.2 (fun j hj => (hA j hj).new (by omega)) (tkI _ _ _ hk (fun y => ?_) (fun y => ?_))
          · rw [et]; split <;> rfl
          · rw [et] at y
            by_cases c8 : 8 < (a + l, l, w).2.1
            · rw [if_pos c8] at y; cases y
            · rw [if_neg c8] at y; exact absurd y (k3 _ _ _)
          · rw [et] at y ⊢
            by_cases c8 : 8 < (a + l, l, w).2.1
            · rw [if_pos c8] at y; cases y
            · rw [if_neg c8]
        have e135 : ∀ kd_ : Nat, (8 < l → kd_ = 3) → (¬ 8 < l → kd_ = 1) → GoS Ω true m_MD_cut K 135 [some (vR (some (12, 0))), some (vI (nI a)), some (vI (nI (B a))), some (vI (nI l)), some (vJ w), none, r6, r7] [vI (nI kd_)] M1 0 0 := by
          intro kd_ h8 h8'
          refine go_wp ok_MD_cut [146, 179] 250 _ _ _ _ _ _ ?_
          conv => whnf
          refine And.intro (fun y => ?_) (fun y => ?_)
          · have y : nI 7 < nI l := y
            rw [nI_ltI (by omega) (by omega)] at y
            refine fin kd_ _ ?_
            rw [et]
            by_cases c8 : 8 < l
            · rw [if_pos (show 8 < (a + l, l, w).2.1 from c8), h8 c8]; rfl
            · rw [if_neg (show ¬ 8 < (a + l, l, w).2.1 from c8), h8' c8]
              show 1 = mkK (wkR w 22 0)
              rw [wk_8]
              · rfl
              · have := hwb.2 (by omega)
                rw [show min l 8 - 1 = 7 by omega] at this
                exact this
          · have y : ¬ nI 7 < nI l := y
            rw [nI_ltI (by omega) (by omega)] at y
            conv => whnf
            rw [h8' (by omega)]
            refine mc_key hT1 (fun r7 => ?_)
            refine fin _ _ ?_
            rw [et, if_neg (show ¬ 8 < (a + l, l, w).2.1 by show ¬ 8 < l; omega)]
            exact mw_eq w
        refine go_wp ok_MD_cut [135] 250 _ _ _ _ _ _ ?_
        refine And.intro (fun y => ?_) (fun y => ?_)
        · have y : nI l ≤ nI 8 := y
          rw [nI_leI (by omega) (by omega)] at y
          conv => whnf
          exact e135 1 (fun z => by omega) (fun _ => rfl)
        · have y : ¬ nI l ≤ nI 8 := y
          rw [nI_leI (by omega) (by omega)] at y
          conv => whnf
          exact e135 3 (fun _ => rfl) (fun z => by omega)
  refine call_go (hJL rfl) (Nat.le_of_ble_eq_true rfl) (go_wp ok_MD_cut [7] 250 _ _ _ _ _ _ ?_)
  conv => whnf
  exact lp (501 + n) 0 0 (sI M 12 0 10 0) none none none none none none (by decide) (Nat.zero_le _) (by omega) (Un.rfl.pI rfl) mI_eq rfl (fun j hj => absurd hj (Nat.not_lt_zero _))
