/-! READ: tokens, the model's, III: cut -/
def TkI (M : Mem) (B : Nat → Nat) (n j : Nat) : Prop := mI M 69 0 j = nI (mkK (tkK B n j)) ∧ mI M 70 0 j = nI (psS B n j) ∧ (tkK B n j = 3 → (mI M 71 0 j).toInt64 = tkV B n j) ∧ (tkK B n j = 2 → mJ M 72 0 j = tkV B n j)
theorem TkI.un {w : Nat → Nat → Nat → Bool} {M M' : Mem} {B : Nat → Nat} {n j : Nat} (h : TkI M B n j) (hU : Un w M M') (hw : ∀ k s, 69 ≤ k → k ≤ 72 → w k 0 s = false) : TkI M' B n j :=
  ⟨(hU.I (hw _ _ (by decide) (by decide))).trans h.1, (hU.I (hw _ _ (by decide) (by decide))).trans h.2.1, fun e => by rw [hU.I (hw _ _ (by decide) (by decide))]; exact h.2.2.1 e, fun e => (hU.J (hw _ _ (by decide) (by decide))).trans (h.2.2.2 e)⟩
theorem TkI.new {M : Mem} {B : Nat → Nat} {n j i kd_ p : Nat} {v : Int32} {nm : Int64} (hi : ¬ j = i) (h : TkI M B n j) : TkI (tkM M i kd_ p v nm) B n j := by
  unfold TkI
  rw [(tkM_ne hi (k := 69) (by decide)).1, (tkM_ne hi (k := 70) (by decide)).1, (tkM_ne hi (k := 71) (by decide)).1, (tkM_ne hi (k := 72) (by decide)).2]
  exact h
theorem TpM.tb {M M' : Mem} {B : Nat → Nat} {n : Nat} (h : TpM M B n) (hU : Un wTb M M') : TpM M' B n := ⟨(hU.I rfl).trans h.1, h.2.1, fun i hi => by rw [hU.I (k := 68) rfl]; exact h.2.2.1 i hi, fun s hs => (hU.J rfl).trans (h.2.2.2 s hs)⟩
/-- the letters of a word -/
theorem mc_word {Ω : Om} {K : Ka} {M : Mem} {B : Nat → Nat} {n a : Nat} {c : Int32} {r6 r7 : Option Vl} (hT : TpM M B n) (ha : a ≤ n)
    (hN : ∀ l w, l ≤ 2000 → (a + l, l, w) = wdR B n (n - a) a 0 0 → GoS Ω true m_MD_cut K 124 [some (vR (some (12, 0))), some (vI (nI a)), some (vI c), some (vI (nI l)), some (vJ w), none, r6, r7] [] M 0 0) :
    GoS Ω true m_MD_cut K 85 [some (vR (some (12, 0))), some (vI (nI a)), some (vI c), some (vI (nI 0)), some (vJ 0), none, r6, r7] [] M 0 0 := by
  have hn := hT.2.1
  have lp : ∀ (f l : Nat) (w : Int64), a + l + f = n → wdR B n f (a + l) l w = wdR B n (n - a) a 0 0 → GoS Ω true m_MD_cut K 85 [some (vR (some (12, 0))), some (vI (nI a)), some (vI c), some (vI (nI l)), some (vJ w), none, r6, r7] [] M 0 0 := by
    intro f
    induction f with
    | zero =>
      intro l w hl he
      refine go_wp ok_MD_cut [124] 250 _ _ _ _ _ _ ?_
      conv => whnf
      rw [nI_add]
      refine cl_use (fun K h => c_MD_at Ω M B n (a + l) K hT (by omega) h) trivial ?_
      conv => whnf
      refine cl_use (fun K h => c_MD_isLetter Ω M _ K h) trivial ?_
      rw [bZ_le (fun q => by omega), show Nat.ble (a + l + 1) n = false from Bool.eq_false_iff.mpr (fun q => by have := Nat.le_of_ble_eq_true q; omega)]
      refine And.intro (fun _ => ?_) (fun q => absurd rfl q)
      exact hN l w (by omega) he
    | succ f ih =>
      intro l w hl he
      have hln : a + l < n := by omega
      have hB := (hT.2.2.1 (a + l) hln).2
      have eb : bZ B n (a + l) = nI (B (a + l)) := if_pos hln
      rw [wdR] at he
      refine go_wp ok_MD_cut [85, 118, 124] 250 _ _ _ _ _ _ ?_
      conv => whnf
      rw [nI_add]
      refine cl_use (fun K h => c_MD_at Ω M B n (a + l) K hT (by omega) h) trivial ?_
      conv => whnf
      refine cl_use (fun K h => c_MD_isLetter Ω M _ K h) trivial ?_
      rw [bZ_le (fun _ => hB)]
      refine br_bz (fun d => ?_) (fun d => ?_)
      · have d : (Nat.ble (a + l + 1) n && cLe (B (a + l))) = false := d
        rw [d, if_neg (by decide)] at he
        exact hN l w (by omega) he
      · have d : (Nat.ble (a + l + 1) n && cLe (B (a + l))) = true := d
        rw [d, if_pos rfl] at he
        have h97 := Nat.le_of_ble_eq_true (Bool.and_eq_true_iff.mp (Bool.and_eq_true_iff.mp d).2).1
        have go : ∀ w2, w2 = (if l < 8 then ltV w (B (a + l)) else w) → GoS Ω true m_MD_cut K 118 [some (vR (some (12, 0))), some (vI (nI a)), some (vI c), some (vI (nI l)), some (vJ w2), none, r6, r7] [] M 0 0 := by
          rintro w2 rfl
          refine go_wp ok_MD_cut [85] 250 _ _ _ _ _ _ ?_
          conv => whnf
          have := ih (l + 1) (if l < 8 then ltV w (B (a + l)) else w) (by omega) he
          rw [← nI_1] at this
          exact this
        conv => whnf
        refine And.intro (fun q => ?_) (fun q => ?_)
        · have q : nI 8 ≤ nI l := q
          rw [nI_leI (by omega) (by omega)] at q
          exact go w (by rw [if_neg (by omega)])
        · have q : ¬ nI 8 ≤ nI l := q
          rw [nI_leI (by omega) (by omega)] at q
          conv => whnf
          rw [nI_add]
          refine cl_use (fun K h => c_MD_at Ω M B n (a + l) K hT (by omega) h) trivial ?_
          rw [eb]
          conv => whnf
          refine cl_use (fun K h => c_MD_more' Ω M w (B (a + l)) K ⟨h97, hB⟩ h) trivial ?_
          conv => whnf
          exact go _ (by rw [if_pos (by omega)])
  exact lp (n - a) 0 0 (by omega) (by rw [Nat.add_zero])
/-- the digits of a number -/
theorem mc_num {Ω : Om} {K : Ka} {M : Mem} {B : Nat → Nat} {n a : Nat} {c : Int32} {r5 r6 r7 : Option Vl} (hT : TpM M B n) (ha : a ≤ n)
    (hN : ∀ l v, l ≤ 2000 → (a + l, l, v) = dgR B n (n - a) a 0 0 → GoS Ω true m_MD_cut K 250 [some (vR (some (12, 0))), some (vI (nI a)), some (vI c), some (vI (nI l)), some (vI (nI v)), r5, r6, r7] [] M 0 0) :
    GoS Ω true m_MD_cut K 208 [some (vR (some (12, 0))), some (vI (nI a)), some (vI c), some (vI (nI 0)), some (vI (nI 0)), r5, r6, r7] [] M 0 0 := by
  have hn := hT.2.1
  have lp : ∀ (f l v : Nat), a + l + f = n → dgR B n f (a + l) l v = dgR B n (n - a) a 0 0 → GoS Ω true m_MD_cut K 208 [some (vR (some (12, 0))), some (vI (nI a)), some (vI c), some (vI (nI l)), some (vI (nI v)), r5, r6, r7] [] M 0 0 := by
    intro f
    induction f with
    | zero =>
      intro l v hl he
      refine go_wp ok_MD_cut [250] 250 _ _ _ _ _ _ ?_
      conv => whnf
      rw [nI_add]
      refine cl_use (fun K h => c_MD_at Ω M B n (a + l) K hT (by omega) h) trivial ?_
      conv => whnf
      refine cl_use (fun K h => c_MD_isDigit Ω M _ K h) trivial ?_
      rw [bZ_di (fun q => by omega), show Nat.ble (a + l + 1) n = false from Bool.eq_false_iff.mpr (fun q => by have := Nat.le_of_ble_eq_true q; omega)]
      refine And.intro (fun _ => ?_) (fun q => absurd rfl q)
      exact hN l v (by omega) he
    | succ f ih =>
      intro l v hl he
      have hln : a + l < n := by omega
      have hB := (hT.2.2.1 (a + l) hln).2
      have eb : bZ B n (a + l) = nI (B (a + l)) := if_pos hln
      rw [dgR] at he
      refine go_wp ok_MD_cut [208, 244, 250] 250 _ _ _ _ _ _ ?_
      conv => whnf
      rw [nI_add]
      refine cl_use (fun K h => c_MD_at Ω M B n (a + l) K hT (by omega) h) trivial ?_
      conv => whnf
      refine cl_use (fun K h => c_MD_isDigit Ω M _ K h) trivial ?_
      rw [bZ_di (fun _ => hB)]
      refine br_bz (fun d => ?_) (fun d => ?_)
      · have d : (Nat.ble (a + l + 1) n && cDi (B (a + l))) = false := d
        rw [d, if_neg (by decide)] at he
        exact hN l v (by omega) he
      · have d : (Nat.ble (a + l + 1) n && cDi (B (a + l))) = true := d
        rw [d, if_pos rfl] at he
        have c48 := Nat.le_of_ble_eq_true (Bool.and_eq_true_iff.mp (Bool.and_eq_true_iff.mp d).2).1
        have go : ∀ x, x = nI (if l < 4 then v * 10 + (B (a + l) - 48) else v) → GoS Ω true m_MD_cut K 244 [some (vR (some (12, 0))), some (vI (nI a)), some (vI c), some (vI (nI l)), some (vI x), r5, r6, r7] [] M 0 0 := by
          rintro x rfl
          refine go_wp ok_MD_cut [208] 250 _ _ _ _ _ _ ?_
          conv => whnf
          have := ih (l + 1) (if l < 4 then v * 10 + (B (a + l) - 48) else v) (by omega) he
          rw [← nI_1 l] at this
          exact this
        conv => whnf
        refine And.intro (fun q => ?_) (fun q => ?_)
        · have q : nI 4 ≤ nI l := q
          rw [nI_leI (by omega) (by omega)] at q
          exact go (nI v) (by rw [if_neg (by omega)])
        · have q : ¬ nI 4 ≤ nI l := q
          rw [nI_leI (by omega) (by omega)] at q
          conv => whnf
          rw [nI_add]
          refine cl_use (fun K h => c_MD_at Ω M B n (a + l) K hT (by omega) h) trivial ?_
          rw [eb]
          conv => whnf
          refine go _ ?_
          rw [if_pos (by omega), ← nI_add, ← pk_mul, ← pk_sub c48, show nI 10 = (10 : Int32) from rfl, show nI 48 = (48 : Int32) from rfl]
          grind
  exact lp (n - a) 0 0 (by omega) (by rw [Nat.add_zero])
/-- which word it is -/
theorem mc_key {Ω : Om} {K : Ka} {M : Mem} {B : Nat → Nat} {n a l : Nat} {c : Int32} {w : Int64} (hT : TpM M B n)
    (hN : ∀ r7, GoS Ω true m_MD_cut K 179 [some (vR (some (12, 0))), some (vI (nI a)), some (vI c), some (vI (nI l)), some (vJ w), none, some (vI (nI (mwL w 22 0 1))), r7] [] M 0 0) :
    GoS Ω true m_MD_cut K 146 [some (vR (some (12, 0))), some (vI (nI a)), some (vI c), some (vI (nI l)), some (vJ w), none, some (vI (nI 1)), some (vI (nI 0))] [] M 0 0 := by
  have lp : ∀ (f i k : Nat), i + f = 22 → mwL w f i k = mwL w 22 0 1 → GoS Ω true m_MD_cut K 146 [some (vR (some (12, 0))), some (vI (nI a)), some (vI c), some (vI (nI l)), some (vJ w), none, some (vI (nI k)), some (vI (nI i))] [] M 0 0 := by
    intro f
    induction f with
    | zero =>
      intro i k hi he
      have he : k = mwL w 22 0 1 := he
      subst he
      refine go_wp ok_MD_cut [179] 250 _ _ _ _ _ _ ?_
      refine And.intro (fun _ => hN _) (fun q => absurd (show (22 : Int32) ≤ nI i from nI_le (a := 22) (by omega) (by omega)) q)
    | succ f ih =>
      intro i k hi he
      rw [mwL] at he
      refine go_wp ok_MD_cut [146] 250 _ _ _ _ _ _ ?_
      refine And.intro (fun q => absurd q (nI_ge (b := 22) (by omega) (by decide))) (fun _ => ?_)
      conv => whnf
      refine And.intro (vp_in_nI (by omega) (by decide)) ?_
      rw [nI_clamp (by omega), hT.2.2.2 i (by omega)]
      refine And.intro (fun q => ?_) (fun q => ?_)
      · have q : ¬ iJ 73 i = w := fun z => q ((lg_cmp_eq _ _).mpr z)
        rw [if_neg q] at he
        conv => whnf
        have := ih (i + 1) k (by omega) he
        rw [← nI_1 i] at this
        exact this
      · have q : iJ 73 i = w := (lg_cmp_eq _ _).mp q
        rw [if_pos q] at he
        conv => whnf
        have := ih (i + 1) (20 + i) (by omega) he
        rw [← nI_1 i, ← nI_add] at this
        exact this
  exact lp 22 0 1 rfl rfl
