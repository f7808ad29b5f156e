/-! BARS, VI: the model's holds, its first bar -/
def SpL (M : Mem) : Nat → List Lt → Prop
  | _, [] => True
  | q, l :: ls => LitM M q l ∧ SpL M (q + 1) ls
theorem SpL.un {w : Nat → Nat → Nat → Bool} {M M' : Mem} (hU : Un w M M') (hw : ∀ k s, 99 ≤ k → k ≤ 108 → w k 0 s = false) : ∀ {ls : List Lt} {q : Nat}, SpL M q ls → SpL M' q ls := by
  intro ls
  induction ls with
  | nil => intro q _; trivial
  | cons l ls ih => intro q h; exact ⟨h.1.un hU hw, ih h.2⟩
/-- within its page's rows -/
def RgL (M : Mem) (k f m : Nat) : Prop := (200 * (k / 8) ≤ f ∧ f + m ≤ 200 * (k / 8) + 200) ∧ ∀ j, j < m → ∃ a c, mI M 104 0 (f + j) = nI a ∧ 520 * (k / 8) ≤ a ∧ mI M 106 0 (f + j) = nI c ∧ c ≤ 520 * (k / 8) + 520
theorem RgL.un {w : Nat → Nat → Nat → Bool} {M M' : Mem} {k f m : Nat} (h : RgL M k f m) (hU : Un w M M') (hw : ∀ k s, 99 ≤ k → k ≤ 108 → w k 0 s = false) : RgL M' k f m := ⟨h.1, fun j hj => by
  obtain ⟨a, c, h1, h2, h3, h4⟩ := h.2 j hj
  exact ⟨a, c, (hU.I (hw _ _ (by decide) (by decide))).trans h1, h2, (hU.I (hw _ _ (by decide) (by decide))).trans h3, h4⟩⟩
/-- a bar of the model spells L -/
def MdB (M : Mem) (k : Nat) (L : List Lt) : Prop := ∃ f, mI M 99 0 k = nI f ∧ mI M 100 0 k = nI (f + L.length) ∧ f + L.length ≤ 1000 ∧ SpL M f L ∧ RgL M k f L.length
theorem MdB.un {w : Nat → Nat → Nat → Bool} {M M' : Mem} {k : Nat} {L : List Lt} (h : MdB M k L) (hU : Un w M M') (hw : ∀ k s, 99 ≤ k → k ≤ 108 → w k 0 s = false) : MdB M' k L := by
  obtain ⟨f, a, b, c, d, e⟩ := h
  exact ⟨f, (hU.I (hw _ _ (by decide) (by decide))).trans a, (hU.I (hw _ _ (by decide) (by decide))).trans b, c, d.un hU hw, e.un hU hw⟩
theorem c_MD_holds (Ω : Om) (M : Mem) (k : Nat) (L : List Lt) (vs : Nat → Int32) (K : Ka) (hk : k < 40) (hL : ∀ l, l ∈ L → LtOK l) (hB : MdB M k L) (hv : ∀ j, j < 8 → mI M 110 0 j = vs j) (hK : ∀ M', Un wTm M M' → K (some (vI (bI (hoS vs L false)))) M') : CallS Ω true m_MD_holds [vR (some (12, 0)), vI (nI k)] M K := by
  obtain ⟨f, b1, b2, b3, b4, -⟩ := hB
  have lp : ∀ (ls : List Lt) (q : Nat) (M2 : Mem) (all : Bool), (∀ l, l ∈ ls → LtOK l) → Un wTm M M2 → SpL M2 q ls → q + ls.length = f + L.length → hoS vs ls all = hoS vs L false → GoS Ω true m_MD_holds K 9 [some (vR (some (12, 0))), some (vI (nI k)), some (vI (bI all)), some (vI (nI q))] [] M2 0 0 := by
    intro ls
    induction ls with
    | nil =>
      intro q M2 all _ hU hsp hq he
      have hq : q = f + L.length := hq
      subst hq
      refine go_wp ok_MD_holds [] 250 _ _ _ _ _ _ ?_
      conv => whnf
      refine And.intro (vp_in_nI (by omega) (by decide)) ?_
      rw [nI_clamp (by omega), (hU.I (wTm_99 100 k (by decide) (by decide))).trans b2]
      refine And.intro (fun _ => ?_) (fun a => absurd (Int32.le_refl _) a)
      conv => whnf
      have := hK M2 hU
      rw [← he] at this
      exact ⟨bI_01 _, this⟩
    | cons l ls ih =>
      intro q M2 all hls hU hsp hq he
      have hlen : (l :: ls).length = ls.length + 1 := rfl
      rw [hlen] at hq
      obtain ⟨h1, h2⟩ := hsp
      have go : ∀ (M3 : Mem) (a : Bool), Un wTm M2 M3 → hoS vs ls a = hoS vs L false → GoS Ω true m_MD_holds K 62 [some (vR (some (12, 0))), some (vI (nI k)), some (vI (bI all)), some (vI (nI q))] [vI (bI a)] M3 0 0 := by
        intro M3 a hU3 he3
        refine go_wp ok_MD_holds [9] 250 _ _ _ _ _ _ ?_
        conv => whnf
        have := ih (q + 1) M3 a (fun x hx => hls x (List.mem_cons_of_mem _ hx)) (hU.trans hU3) (h2.un hU3 wTm_99) (by omega) he3
        rw [← nI_1] at this
        exact this
      have go2 : ∀ (M3 : Mem) (o a : Bool), Un wTm M2 M3 → hoS vs ls a = hoS vs L false → GoS Ω true m_MD_holds K 62 [some (vR (some (12, 0))), some (vI (nI k)), some (vI (bI o)), some (vI (nI q))] [vI (bI a)] M3 0 0 := by
        intro M3 o a hU3 he3
        refine go_wp ok_MD_holds [9] 250 _ _ _ _ _ _ ?_
        conv => whnf
        have := ih (q + 1) M3 a (fun x hx => hls x (List.mem_cons_of_mem _ hx)) (hU.trans hU3) (h2.un hU3 wTm_99) (by omega) he3
        rw [← nI_1] at this
        exact this
      have tail : ∀ (o : Bool), hoS vs ls (o && ltS vs l) = hoS vs L false → GoS Ω true m_MD_holds K 45 [some (vR (some (12, 0))), some (vI (nI k)), some (vI (bI o)), some (vI (nI q))] [] M2 0 0 := by
        intro o he3
        refine go_wp ok_MD_holds [62] 250 _ _ _ _ _ _ ?_
        conv => whnf
        refine br_bz (fun c => ?_) (fun c => ?_)
        · conv => whnf
          exact go2 M2 o false Un.rfl (by rw [c] at he3; exact he3)
        · conv => whnf
          refine ⟨fun r M' => r = some (vI (bI (ltS vs l))) ∧ Un wTm M2 M', c_isTrue Ω M2 q l vs _ (by omega) (hls l List.mem_cons_self) h1 (fun j hj => (hU.I rfl).trans (hv j hj)) (fun M' a => ⟨rfl, a⟩), trivial, ?_⟩
          rintro r M3 ⟨rfl, hU3⟩
          conv => whnf
          refine br_bz (fun c2 => ?_) (fun c2 => ?_)
          · conv => whnf
            exact go2 M3 o false hU3 (by rw [c, c2] at he3; exact he3)
          · conv => whnf
            exact go2 M3 o true hU3 (by rw [c, c2] at he3; exact he3)
      have h103 : mI M2 103 0 q = bI l.2.2.1 := h1.2.2.1
      refine go_wp ok_MD_holds [45] 250 _ _ _ _ _ _ ?_
      conv => whnf
      refine And.intro (vp_in_nI (by omega) (by decide)) ?_
      rw [nI_clamp (by omega), (hU.I (wTm_99 100 k (by decide) (by decide))).trans b2]
      refine And.intro (fun a => ?_) (fun _ => ?_)
      · rw [nI_leI (by omega) (by omega)] at a; omega
      conv => whnf
      refine And.intro (vp_in_nI (by omega) (by decide)) ?_
      rw [nI_clamp (by omega), h103]
      rw [hoS] at he
      cases hor : l.2.2.1 with
      | false =>
        rw [hor] at he h103
        refine And.intro (fun _ => ?_) (fun a => absurd rfl a)
        conv => whnf
        refine And.intro (vp_in_nI (by omega) (by decide)) ?_
        rw [nI_clamp (by omega), h103]
        refine And.intro (fun _ => ?_) (fun a => absurd rfl a)
        conv => whnf
        exact tail all (by simpa using he)
      | true =>
        rw [hor] at he h103
        refine And.intro (fun a => absurd a (by decide)) (fun _ => ?_)
        conv => whnf
        refine br_bz (fun c => ?_) (fun c => ?_)
        · conv => whnf
          refine And.intro (vp_in_nI (by omega) (by decide)) ?_
          rw [nI_clamp (by omega), h103]
          refine And.intro (fun a => absurd a (by decide)) (fun _ => ?_)
          conv => whnf
          exact tail true (by rw [c] at he; simpa using he)
        · conv => whnf
          have := hK M2 hU
          rw [c] at he
          simp at he
          rw [he] at this
          exact ⟨Or.inr rfl, this⟩
  refine call_go (hJL rfl) (Nat.le_of_ble_eq_true rfl) (go_wp ok_MD_holds [9] 250 _ _ _ _ _ _ ?_)
  conv => whnf
  refine And.intro (vp_in_nI (by omega) (by decide)) ?_
  rw [nI_clamp (by omega), b1]
  exact lp L f M false hL Un.rfl b4 rfl rfl
def wBm (k _i s : Nat) : Bool := Nat.beq k 110 || (Nat.beq k 111 || (Nat.beq k 12 && (Nat.beq s 63 || Nat.beq s 86)))
theorem wBm_tm : ∀ k i s, wBm k i s = false → wTm k i s = false := by
  intro k i s h
  simp [wBm, wTm, nb_d] at h ⊢
  omega
theorem wBm_99 : ∀ (k s : Nat), 99 ≤ k → k ≤ 108 → wBm k 0 s = false := fun k s h1 h2 => by simp [wBm, nb_d]; omega
def fcB (o : Option (Nat × Nat)) : Int32 := match o with
  | some (_, k) => nI k
  | none => -1
def fcI (o : Option (Nat × Nat)) : Int32 := match o with
  | some (i, _) => nI i
  | none => -1
theorem mb_lb {Ω : Om} {M : Mem} {p n nb : Nat} {vr : Nat → Nat → Int32} {Ls : Nat → List Lt} {K : Ka} (hp : p < 4) (hn : n ≤ 10) (hnb : nb ≤ 8) (hbc : mI M 97 0 p = nI nb) (hB : ∀ k, k < nb → BOK (Ls k) ∧ MdB M (8 * p + k) (Ls k))
    (hK : ∀ M', Un wBm M M' → mI M' 12 0 86 = fcI (fbS Ls nb vr n 0) → K (some (vI (fcB (fbS Ls nb vr n 0)))) M') {i m : Nat} (hi : i + (m + 1) = n) (he : fbS Ls nb vr (m + 1) i = fbS Ls nb vr n 0)
    (ih : ∀ (M1 : Mem) (r3 : Option Vl), Un wBm M M1 → mI M1 12 0 86 = -1 → fbS Ls nb vr m (i + 1) = fbS Ls nb vr n 0 → GoS Ω true m_MD_barNow K 14 [some (vR (some (12, 0))), some (vI (nI p)), some (vI (nI (i + 1))), r3] [] M1 0 0) :
    ∀ (m2 k : Nat) (M4 : Mem), k + m2 = nb → Un wBm M M4 → mI M4 12 0 86 = -1 → (∀ j, j < 8 → mI M4 110 0 j = vr i j) → fbB Ls (vr i) m2 k = fbB Ls (vr i) nb 0 → GoS Ω true m_MD_barNow K 127 [some (vR (some (12, 0))), some (vI (nI p)), some (vI (nI i)), some (vI (nI k))] [] M4 0 0 := by
  intro m2
  induction m2 with
  | zero =>
    intro k M4 hk hU4 h4 hv4 he4
    have hk : k = nb := hk
    subst hk
    refine go_wp ok_MD_barNow [14] 250 _ _ _ _ _ _ ?_
    conv => whnf
    refine And.intro (vp_in_nI (by omega) (by decide)) ?_
    rw [nI_clamp (by omega), (hU4.I (k := 97) rfl).trans hbc]
    refine And.intro (fun _ => ?_) (fun a => absurd (Int32.le_refl _) a)
    conv => whnf
    have := ih M4 (some (vI (nI k))) hU4 h4 (by
      rw [← he, fbS]
      rw [fbB] at he4
      rw [← he4])
    rw [← nI_1] at this
    exact this
  | succ m2 ih2 =>
    intro k M4 hk hU4 h4 hv4 he4
    obtain ⟨hBO, hMB⟩ := hB k (by omega)
    refine go_wp ok_MD_barNow [127] 250 _ _ _ _ _ _ ?_
    conv => whnf
    refine And.intro (vp_in_nI (by omega) (by decide)) ?_
    rw [nI_clamp (by omega), (hU4.I (k := 97) rfl).trans hbc]
    refine And.intro (fun a => ?_) (fun _ => ?_)
    · rw [nI_leI (by omega) (by omega)] at a; omega
    conv => whnf
    rw [show (8 : Int32) = nI 8 from rfl, pk_mul, nI_add]
    refine ⟨fun r M' => r = some (vI (bI (hoS (vr i) (Ls k) false))) ∧ Un wTm M4 M', c_MD_holds Ω M4 (8 * p + k) (Ls k) (vr i) _ (by omega) hBO.1 (hMB.un hU4 wBm_99) hv4 (fun M' a => ⟨rfl, a⟩), trivial, ?_⟩
    rintro r M5 ⟨rfl, hU5⟩
    have hU5' := hU4.trans (hU5.mono wBm_tm)
    conv => whnf
    refine br_bn (fun c => ?_) (fun c => ?_)
    · conv => whnf
      have := hK (sI M5 12 0 86 (nI i)) (hU5'.pI rfl)
      rw [fbB, if_pos c] at he4
      rw [← he, fbS, ← he4] at this
      exact this (by rw [mI_sI, if_pos ⟨rfl, rfl, rfl⟩]; rfl)
    · conv => whnf
      have := ih2 (k + 1) M5 (by omega) hU5' ((hU5.I rfl).trans h4) (fun j hj => (hU5.I rfl).trans (hv4 j hj)) (by
        rw [← he4, fbB, if_neg (by rw [c]; decide)])
      rw [← nI_1] at this
      exact this
theorem c_barNow (Ω : Om) (M : Mem) (p w n nb : Nat) (v : Int32) (wd tw : Nat → Int32) (g d b a : Nat → Int64) (Ls : Nat → List Lt) (K : Ka) (hp : p < 4) (hw4 : w < 4) (hn : n ≤ 10) (hnb : nb ≤ 8)
    (h71 : mI M 12 0 71 = nI (4 * p + w)) (h72 : mI M 12 0 72 = nI n) (h73 : mI M 12 0 73 = v) (hF : MF M n g d b a) (hwd : ∀ i, i < n → mI M 92 0 (10 * (4 * p + w) + i) = wd i) (htw : ∀ i, i < n → mI M 118 0 i = tw i) (hbc : mI M 97 0 p = nI nb) (hB : ∀ k, k < nb → BOK (Ls k) ∧ MdB M (8 * p + k) (Ls k))
    (hK : ∀ M', Un wBm M M' → mI M' 12 0 86 = fcI (fbS Ls nb (vrS n v wd tw g d b a) n 0) → K (some (vI (fcB (fbS Ls nb (vrS n v wd tw g d b a) n 0)))) M') :
    CallS Ω true m_MD_barNow [vR (some (12, 0))] M K := by
  generalize hvr : vrS n v wd tw g d b a = vr at hK
  have lp : ∀ (m i : Nat) (M1 : Mem) (r3 : Option Vl), i + m = n → Un wBm M M1 → mI M1 12 0 86 = -1 → fbS Ls nb vr m i = fbS Ls nb vr n 0 → GoS Ω true m_MD_barNow K 14 [some (vR (some (12, 0))), some (vI (nI p)), some (vI (nI i)), r3] [] M1 0 0 := by
    intro m
    induction m with
    | zero =>
      intro i M1 r3 hi hU h86 he
      have hi : i = n := hi
      subst hi
      refine go_wp ok_MD_barNow [] 250 _ _ _ _ _ _ ?_
      refine And.intro (fun _ => ?_) (fun a => ?_)
      · conv => whnf
        have := hK M1 hU
        rw [← he] at this
        exact this h86
      · rw [(hU.I rfl).trans h72] at a; exact absurd (Int32.le_refl _) a
    | succ m ih =>
      intro i M1 r3 hi hU h86 he
      obtain ⟨q1, q2, q3, q4⟩ := hF i (by omega)
      refine go_wp ok_MD_barNow [127] 250 _ _ _ _ _ _ ?_
      refine And.intro (fun a => ?_) (fun _ => ?_)
      · rw [(hU.I rfl).trans h72, nI_leI (by omega) (by omega)] at a; omega
      conv => whnf
      refine And.intro (vp_in_nI (by omega) (by decide)) ?_
      rw [nI_clamp (by omega), (hU.J rfl).trans q4]
      conv => whnf
      refine And.intro (vp_in_nI (n := 0) (by omega) (by decide)) ?_
      conv => whnf
      refine And.intro (vp_in_nI (by omega) (by decide)) ?_
      rw [nI_clamp (by omega), mJ_sI, (hU.J rfl).trans q1]
      conv => whnf
      refine And.intro (vp_in_nI (n := 1) (by omega) (by decide)) ?_
      conv => whnf
      rw [show ∀ x y : Int32, mI (sI (sI M1 110 0 (Int32.toNatClampNeg 0) x) 110 0 (Int32.toNatClampNeg 1) y) 12 0 71 = nI (4 * p + w) from fun x y => by rw [mI_sI, if_neg (fun q => absurd q.1 (by decide)), mI_sI, if_neg (fun q => absurd q.1 (by decide))]; exact (hU.I (k := 12) rfl).trans h71, show (10 : Int32) = nI 10 from rfl, pk_mul, nI_add]
      refine And.intro (vp_in_nI (by omega) (by decide)) ?_
      rw [nI_clamp (by omega), mI_sI, if_neg (fun q => absurd q.1 (by decide)), mI_sI, if_neg (fun q => absurd q.1 (by decide)), (hU.I (k := 92) rfl).trans (hwd i (by omega))]
      conv => whnf
      refine And.intro (vp_in_nI (n := 2) (by omega) (by decide)) ?_
      conv => whnf
      refine And.intro (vp_in_nI (by omega) (by decide)) ?_
      generalize hM2 : sI (sI (sI M1 110 0 (Int32.toNatClampNeg 0) (a i).toInt32) 110 0 (Int32.toNatClampNeg 1) (g i).toInt32) 110 0 (Int32.toNatClampNeg 2) (wd i) = M2
      have hU2 : Un wBm M M2 := by rw [← hM2]; exact ((hU.pI rfl).pI rfl).pI rfl
      have h160 : mI M2 110 0 0 = (a i).toInt32 ∧ mI M2 110 0 1 = (g i).toInt32 ∧ mI M2 110 0 2 = wd i := by
        rw [← hM2]
        refine ⟨?_, ?_, ?_⟩
        · rw [mI_sI, if_neg (fun q => absurd q.2.2 (by decide)), mI_sI, if_neg (fun q => absurd q.2.2 (by decide)), mI_sI, if_pos ⟨rfl, rfl, rfl⟩]
        · rw [mI_sI, if_neg (fun q => absurd q.2.2 (by decide)), mI_sI, if_pos ⟨rfl, rfl, rfl⟩]
        · rw [mI_sI, if_pos ⟨rfl, rfl, rfl⟩]
      have h862 : mI M2 12 0 86 = -1 := by rw [← hM2, mI_sI, if_neg (fun q => absurd q.1 (by decide)), mI_sI, if_neg (fun q => absurd q.1 (by decide)), mI_sI, if_neg (fun q => absurd q.1 (by decide))]; exact h86
      clear hM2
      rw [nI_clamp (by omega), (hU2.I (k := 118) rfl).trans (htw i (by omega))]
      conv => whnf
      refine And.intro (vp_in_nI (n := 3) (by omega) (by decide)) ?_
      conv => whnf
      refine And.intro (vp_in_nI (n := 4) (by omega) (by decide)) ?_
      conv => whnf
      rw [show ∀ x y : Int32, mI (sI (sI M2 110 0 (Int32.toNatClampNeg 3) x) 110 0 (Int32.toNatClampNeg 4) y) 12 0 73 = v from fun x y => by rw [mI_sI, if_neg (fun q => absurd q.1 (by decide)), mI_sI, if_neg (fun q => absurd q.1 (by decide))]; exact (hU2.I (k := 12) rfl).trans h73]
      refine And.intro (vp_in_nI (n := 5) (by omega) (by decide)) ?_
      conv => whnf
      refine And.intro (vp_in_nI (by omega) (by decide)) ?_
      rw [nI_clamp (by omega), mJ_sI, mJ_sI, mJ_sI, (hU2.J (k := 116) rfl).trans q3]
      conv => whnf
      refine And.intro (vp_in_nI (n := 6) (by omega) (by decide)) ?_
      conv => whnf
      refine And.intro (vp_in_nI (by omega) (by decide)) ?_
      rw [nI_clamp (by omega), mJ_sI, mJ_sI, mJ_sI, mJ_sI, (hU2.J (k := 115) rfl).trans q2]
      conv => whnf
      refine And.intro (vp_in_nI (n := 7) (by omega) (by decide)) ?_
      generalize hM3 : sI (sI (sI (sI (sI M2 110 0 (Int32.toNatClampNeg 3) (tw i)) 110 0 (Int32.toNatClampNeg 4) (nI i)) 110 0 (Int32.toNatClampNeg 5) v) 110 0 (Int32.toNatClampNeg 6) (b i).toInt32) 110 0 (Int32.toNatClampNeg 7) (d i).toInt32 = M3
      have hU3 : Un wBm M M3 := by rw [← hM3]; exact ((((hU2.pI rfl).pI rfl).pI rfl).pI rfl).pI rfl
      have h863 : mI M3 12 0 86 = -1 := by rw [← hM3, mI_sI, if_neg (fun q => absurd q.1 (by decide)), mI_sI, if_neg (fun q => absurd q.1 (by decide)), mI_sI, if_neg (fun q => absurd q.1 (by decide)), mI_sI, if_neg (fun q => absurd q.1 (by decide)), mI_sI, if_neg (fun q => absurd q.1 (by decide))]; exact h862
      have hvs : ∀ j, j < 8 → mI M3 110 0 j = vr i j := by
        intro j hj
        rw [← hM3, ← hvr]
        rcases (show j = 0 ∨ j = 1 ∨ j = 2 ∨ j = 3 ∨ j = 4 ∨ j = 5 ∨ j = 6 ∨ j = 7 by omega) with rfl | rfl | rfl | rfl | rfl | rfl | rfl | rfl
        · rw [mI_sI, if_neg (fun q => absurd q.2.2 (by decide)), mI_sI, if_neg (fun q => absurd q.2.2 (by decide)), mI_sI, if_neg (fun q => absurd q.2.2 (by decide)), mI_sI, if_neg (fun q => absurd q.2.2 (by decide)), mI_sI, if_neg (fun q => absurd q.2.2 (by decide))]; exact h160.1
        · rw [mI_sI, if_neg (fun q => absurd q.2.2 (by decide)), mI_sI, if_neg (fun q => absurd q.2.2 (by decide)), mI_sI, if_neg (fun q => absurd q.2.2 (by decide)), mI_sI, if_neg (fun q => absurd q.2.2 (by decide)), mI_sI, if_neg (fun q => absurd q.2.2 (by decide))]; exact h160.2.1
        · rw [mI_sI, if_neg (fun q => absurd q.2.2 (by decide)), mI_sI, if_neg (fun q => absurd q.2.2 (by decide)), mI_sI, if_neg (fun q => absurd q.2.2 (by decide)), mI_sI, if_neg (fun q => absurd q.2.2 (by decide)), mI_sI, if_neg (fun q => absurd q.2.2 (by decide))]; exact h160.2.2
        · rw [mI_sI, if_neg (fun q => absurd q.2.2 (by decide)), mI_sI, if_neg (fun q => absurd q.2.2 (by decide)), mI_sI, if_neg (fun q => absurd q.2.2 (by decide)), mI_sI, if_neg (fun q => absurd q.2.2 (by decide)), mI_sI, if_pos ⟨rfl, rfl, rfl⟩]; rfl
        · rw [mI_sI, if_neg (fun q => absurd q.2.2 (by decide)), mI_sI, if_neg (fun q => absurd q.2.2 (by decide)), mI_sI, if_neg (fun q => absurd q.2.2 (by decide)), mI_sI, if_pos ⟨rfl, rfl, rfl⟩]; rfl
        · rw [mI_sI, if_neg (fun q => absurd q.2.2 (by decide)), mI_sI, if_neg (fun q => absurd q.2.2 (by decide)), mI_sI, if_pos ⟨rfl, rfl, rfl⟩]; rfl
        · rw [mI_sI, if_neg (fun q => absurd q.2.2 (by decide)), mI_sI, if_pos ⟨rfl, rfl, rfl⟩]; rfl
        · rw [mI_sI, if_pos ⟨rfl, rfl, rfl⟩]; rfl
      clear hM3
      exact mb_lb hp hn hnb hbc hB hK hi he (fun M1 r3 a b c => ih (i + 1) M1 r3 (by omega) a b c) nb 0 M3 (by omega) hU3 h863 hvs rfl
  refine call_go (hJL rfl) (Nat.le_of_ble_eq_true rfl) (go_wp ok_MD_barNow [14] 250 _ _ _ _ _ _ ?_)
  conv => whnf
  refine And.intro (show ¬ (4 : Int32) = 0 by decide) ?_
  conv => whnf
  rw [show mI (sI M 12 0 86 (-1)) 12 0 71 = nI (4 * p + w) from by rw [mI_sI, if_neg (fun q => absurd q.2.2 (by decide))]; exact h71, show (4 : Int32) = nI 4 from rfl, pk_div (by omega) (by omega) (by omega), show (4 * p + w) / 4 = p by omega]
  exact lp n 0 (sI M 12 0 86 (-1)) none (by omega) (Un.rfl.pI rfl) (by rw [mI_sI, if_pos ⟨rfl, rfl, rfl⟩]) rfl
