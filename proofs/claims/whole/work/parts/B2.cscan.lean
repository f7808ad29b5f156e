/-! READ: tokens, the class's, II -/
theorem swC_i {x : Int32} {f : Nat → Prop} {d : Prop} : ∀ {l : List (Int32 × Nat)}, (∀ p, p ∈ l → x = p.1 → f p.2) → ((∀ p, p ∈ l → ¬ x = p.1) → d) → swC x l f d := by
  intro l
  induction l with
  | nil => intro _ h2; exact h2 (fun p hp => by cases hp)
  | cons a l ih =>
    intro h1 h2
    obtain ⟨k, t⟩ := a
    refine ⟨fun e => h1 (k, t) List.mem_cons_self e, fun e => ih (fun p hp => h1 p (List.mem_cons_of_mem _ hp)) (fun h => h2 (fun p hp => ?_))⟩
    rcases List.mem_cons.mp hp with rfl | hp
    · exact e
    · exact h p hp
theorem sgK_no {c : Nat} {e : Bool} (h : ∀ v, v = 61 ∨ v = 33 ∨ v = 60 ∨ v = 40 ∨ v = 41 ∨ v = 42 ∨ v = 43 ∨ v = 44 ∨ v = 45 ∨ v = 47 ∨ v = 58 ∨ v = 59 → ¬ c = v) : sgK c e = 1 := by
  unfold sgK
  rw [if_neg (h 61 (by omega)), if_neg (h 33 (by omega)), if_neg (h 60 (by omega)), if_neg (fun q => by
    rcases q with q | q | q | q | q | q | q | q | q <;> exact h _ (by omega) q)]
set_option maxHeartbeats 2000000 in
theorem sg_sw {Ω : Om} {K : Ka} {M : Mem} {c : Nat} {e : Bool} (hc : c < 256) (hK : K (some (vI (nI (sgK c e)))) M) : GoS Ω true m_Tokens_signFrom K 57 [some (vR (some (8, 0))), some (vI (nI c)), some (vI (bI e))] [] M 0 0 := by
  refine go_wp ok_Tokens_signFrom [] 250 _ _ _ _ _ _ ?_
  refine swC_i (fun p hp q => ?_) (fun h => ?_)
  · simp only [List.mem_cons, List.not_mem_nil, or_false] at hp
    have q2 := congrArg Int32.toNatClampNeg q
    rw [nI_clamp (by omega)] at q2
    rcases hp with rfl | rfl | rfl | rfl | rfl | rfl | rfl | rfl | rfl | rfl | rfl | rfl | rfl | rfl | rfl | rfl | rfl | rfl | rfl | rfl | rfl | rfl | rfl | rfl | rfl | rfl | rfl | rfl | rfl <;> subst q2 <;> cases e <;> first
      | exact hK
      | exact And.intro (fun q => absurd q (by decide)) (fun _ => hK)
      | exact And.intro (fun _ => hK) (fun q => absurd rfl q)
  · rw [sgK_no (fun v hv q => by
      subst q
      rcases hv with rfl | rfl | rfl | rfl | rfl | rfl | rfl | rfl | rfl | rfl | rfl | rfl
      · exact h (61, 188) (by decide) rfl
      · exact h (33, 198) (by decide) rfl
      · exact h (60, 208) (by decide) rfl
      · exact h (40, 220) (by decide) rfl
      · exact h (41, 220) (by decide) rfl
      · exact h (42, 220) (by decide) rfl
      · exact h (43, 220) (by decide) rfl
      · exact h (44, 220) (by decide) rfl
      · exact h (45, 220) (by decide) rfl
      · exact h (47, 220) (by decide) rfl
      · exact h (58, 220) (by decide) rfl
      · exact h (59, 220) (by decide) rfl)] at hK
    exact hK
theorem c_signFrom (Ω : Om) (M : Mem) (B : Nat → Nat) (n a tk : Nat) (K : Ka) (hT : TpC M B n) (ha : a < n) (hat : mI M 8 0 7 = nI a)
    (hK : ∀ M', Un (wT1 tk) M M' → mI M' 8 0 7 = nI (a + sgL (B a) (Nat.ble (a + 2) n && Nat.beq (B (a + 1)) 61)) → (∀ k s, ¬ k = 8 → mI M' k 0 s = mI M k 0 s ∧ mJ M' k 0 s = mJ M k 0 s) → K (some (vI (nI (sgK (B a) (Nat.ble (a + 2) n && Nat.beq (B (a + 1)) 61))))) M') :
    CallS Ω true m_Tokens_signFrom [vR (some (8, 0)), vI (nI (B a))] M K := by
  have hn := hT.2.1
  have hB := (hT.2.2.1 a ha).2
  generalize he : (Nat.ble (a + 2) n && Nat.beq (B (a + 1)) 61) = e at hK
  have tl : ∀ (x : Int32), x = nI (sgL (B a) e) → GoS Ω true m_Tokens_signFrom K 53 [some (vR (some (8, 0))), some (vI (nI (B a))), some (vI (bI e))] [vI x, vI (nI a), vR (some (8, 0))] M 0 0 := by
    rintro x rfl
    refine go_wp ok_Tokens_signFrom [57] 250 _ _ _ _ _ _ ?_
    conv => whnf
    refine sg_sw hB (hK _ (Un.rfl.pI wT1_at) ?_ (fun k s hk => ⟨?_, ?_⟩))
    · rw [mI_eq, nI_add]
    · rw [mI_sI, if_neg (fun q => hk q.1)]
    · rw [mJ_sI]
  have md : GoS Ω true m_Tokens_signFrom K 20 [some (vR (some (8, 0))), some (vI (nI (B a))), none] [vI (bI e)] M 0 0 := by
    refine go_wp ok_Tokens_signFrom [53] 250 _ _ _ _ _ _ ?_
    conv => whnf
    rw [hat]
    refine br_bz (fun c => ?_) (fun c => ?_)
    · conv => whnf
      exact tl 1 (by unfold sgL; rw [c, if_neg (fun q => by cases q.1)]; rfl)
    · refine And.intro (fun q => ?_) (fun q => And.intro (fun r => ?_) (fun r => And.intro (fun z => ?_) (fun z => ?_)))
      · have q := (nI_eq (by omega) (b := 61) (by decide)).mp q
        conv => whnf
        exact tl 2 (by unfold sgL; rw [if_pos ⟨c, Or.inl q⟩]; rfl)
      · have r := (nI_eq (by omega) (b := 33) (by decide)).mp r
        conv => whnf
        exact tl 2 (by unfold sgL; rw [if_pos ⟨c, Or.inr (Or.inl r)⟩]; rfl)
      · have q : ¬ B a = 61 := fun y => q (by rw [y]; rfl)
        have r : ¬ B a = 33 := fun y => r (by rw [y]; rfl)
        have z : ¬ B a = 60 := fun y => z (by rw [y]; rfl)
        conv => whnf
        exact tl 1 (by unfold sgL; rw [if_neg (fun y => by omega)]; rfl)
      · have z := (nI_eq (by omega) (b := 60) (by decide)).mp z
        conv => whnf
        exact tl 2 (by unfold sgL; rw [if_pos ⟨c, Or.inr (Or.inr z)⟩]; rfl)
  refine call_go (hJL rfl) (Nat.le_of_ble_eq_true rfl) (go_wp ok_Tokens_signFrom [20] 250 _ _ _ _ _ _ ?_)
  conv => whnf
  rw [hat, nI_1]
  refine cl_use (fun K h => c_byteAt Ω M B n (a + 1) K hT (by omega) h) trivial ?_
  have eA : bA B n (a + 1) = 61 ↔ e = true := by
    rw [← he]
    unfold bA
    by_cases c : a + 1 < n
    · rw [if_pos c, Nat.ble_eq.mpr (show a + 2 ≤ n by omega), Bool.true_and, nb_d, decide_eq_true_eq]
      exact nI_eq (by have := (hT.2.2.1 (a + 1) c).2; omega) (b := 61) (by decide)
    · rw [if_neg c, show Nat.ble (a + 2) n = false from Bool.eq_false_iff.mpr (fun q => by have := Nat.le_of_ble_eq_true q; omega)]
      exact ⟨fun q => absurd q (by decide), fun q => by cases q⟩
  refine And.intro (fun q => ?_) (fun q => ?_)
  · have : e = false := Bool.eq_false_iff.mpr (fun y => q (eA.mpr y))
    conv => whnf
    rw [this] at md
    exact md
  · have : e = true := eA.mp q
    conv => whnf
    rw [this] at md
    exact md
set_option maxHeartbeats 1000000 in
theorem c_scanOne (Ω : Om) (M : Mem) (B : Nat → Nat) (n a tk : Nat) (K : Ka) (hT : TpC M B n) (ha : a ≤ n) (htk : tk ≤ 500) (hat : mI M 8 0 7 = nI a)
    (hK : ∀ M', Un (wT1 tk) M M' → mI M' 8 0 7 = nI (tokAt B n (skR B n (n - a) a)).2.2 → mI M' 51 0 tk = nI (skR B n (n - a) a) → mJ M' 52 0 tk = (tokAt B n (skR B n (n - a) a)).2.1 → mI M' 50 0 tk = nI (tokAt B n (skR B n (n - a) a)).1 → K none M') :
    CallS Ω true m_Tokens_scanOne [vR (some (8, 0)), vI (nI tk)] M K := by
  have hn := hT.2.1
  generalize hp : skR B n (n - a) a = p at hK
  have hpn : p ≤ n := by rw [← hp]; exact (skR_ge (n - a) a).2 (by omega)
  have fin : ∀ M1, Un (wT1 tk) M M1 → mI M1 8 0 7 = nI p → GoS Ω true m_Tokens_scanOne K 38 [some (vR (some (8, 0))), some (vI (nI tk)), none] [] M1 0 0 := by
    intro M1 hU h7
    have hT1 := hT.t1 hU
    have hv : vp_in (nI tk) 501 := vp_in_nI (by omega) (by decide)
    refine go_wp ok_Tokens_scanOne [] 250 _ _ _ _ _ _ ?_
    conv => whnf
    rw [h7]
    refine cl_use (fun K h => c_byteAt Ω M1 B n p K hT1 (by omega) h) trivial ?_
    refine And.intro (fun e => absurd e (nI_pos (by omega))) (fun _ => And.intro (fun _ => ?_) (fun e => absurd (show nI tk ≤ 500 from nI_le (b := 500) htk (by decide)) e))
    conv => whnf
    refine And.intro hv ?_
    rw [nI_clamp (by omega), h7]
    conv => whnf
    refine And.intro hv ?_
    rw [nI_clamp (by omega)]
    generalize hM2 : sJ (sI M1 51 0 tk (nI p)) 52 0 tk 0 = M2
    have hU2 : Un (wT1 tk) M M2 := by rw [← hM2]; exact (hU.pI (wT1_k (by omega))).pJ (wT1_k (by omega))
    have h2 : mI M2 8 0 7 = nI p ∧ mI M2 51 0 tk = nI p ∧ mJ M2 52 0 tk = 0 := by
      rw [← hM2]
      exact ⟨h7, by rw [mI_sJ, mI_eq], by rw [mJ_sJ, if_pos ⟨rfl, rfl, rfl⟩]⟩
    clear hM2
    have hT2 := hT.t1 hU2
    by_cases c : p < n
    · have eb : bA B n p = nI (B p) := if_pos c
      have hB := (hT.2.2.1 p c).2
      have ebl : Nat.ble (p + 1) n = true := Nat.ble_eq.mpr c
      have eL := bA_le (B := B) (n := n) (i := p) (fun _ => hB)
      have eD := bA_di (B := B) (n := n) (i := p) (fun _ => hB)
      rw [eb, ebl, Bool.true_and] at eL eD
      rw [eb]
      refine And.intro (fun _ => ?_) (fun e => absurd e (nI_nm1 (by omega)))
      conv => whnf
      refine cl_use (fun K h => c_isLetter Ω M2 _ K h) trivial ?_
      rw [eL]
      refine br_bz (fun cl => ?_) (fun cl => ?_)
      · conv => whnf
        refine cl_use (fun K h => c_isDigit Ω M2 _ K h) trivial ?_
        rw [eD]
        refine br_bz (fun cd => ?_) (fun cd => ?_)
        · have et : tokAt B n p = (sgK (B p) (Nat.ble (p + 2) n && Nat.beq (B (p + 1)) 61), 0, p + sgL (B p) (Nat.ble (p + 2) n && Nat.beq (B (p + 1)) 61)) := by
            unfold tokAt
            rw [ebl, if_neg (by decide), cl, if_neg (by decide), cd, if_neg (by decide)]
          rw [et] at hK
          conv => whnf
          refine ⟨fun r M' => r = some (vI (nI (sgK (B p) (Nat.ble (p + 2) n && Nat.beq (B (p + 1)) 61)))) ∧ Un (wT1 tk) M2 M' ∧ mI M' 8 0 7 = nI (p + sgL (B p) (Nat.ble (p + 2) n && Nat.beq (B (p + 1)) 61)) ∧ mI M' 51 0 tk = nI p ∧ mJ M' 52 0 tk = 0, c_signFrom Ω M2 B n p tk _ hT2 c h2.1 (fun M' q1 q2 q3 => ⟨rfl, q1, q2, (q3 51 tk (by decide)).1.trans h2.2.1, (q3 52 tk (by decide)).2.trans h2.2.2⟩), trivial, ?_⟩
          rintro r M3 ⟨rfl, q1, q2, q3, q4⟩
          conv => whnf
          refine And.intro hv ?_
          rw [nI_clamp (by omega)]
          exact hK _ ((hU2.trans q1).pI (wT1_k (by omega))) q2 ((mI_ne rfl).trans q3) q4 mI_eq
        · have et : tokAt B n p = (if 4 < (dgR B n (n - p) p 0 0).2.1 then (1, 0, (dgR B n (n - p) p 0 0).1) else (3, (nI (dgR B n (n - p) p 0 0).2.2).toInt64, (dgR B n (n - p) p 0 0).1)) := by
            unfold tokAt
            rw [ebl, if_neg (by decide), cl, if_neg (by decide), cd, if_pos rfl]
          have et1 : (tokAt B n p).1 = (if 4 < (dgR B n (n - p) p 0 0).2.1 then 1 else 3) := by rw [et]; split <;> rfl
          have et2 : (tokAt B n p).2.1 = (if 4 < (dgR B n (n - p) p 0 0).2.1 then 0 else (nI (dgR B n (n - p) p 0 0).2.2).toInt64) := by rw [et]; split <;> rfl
          have et3 : (tokAt B n p).2.2 = (dgR B n (n - p) p 0 0).1 := by rw [et]; split <;> rfl
          rw [et1, et2, et3] at hK
          conv => whnf
          refine ⟨fun r M' => r = some (vI (nI (if 4 < (dgR B n (n - p) p 0 0).2.1 then 1 else 3))) ∧ Un (wT1 tk) M2 M' ∧ mI M' 8 0 7 = nI (dgR B n (n - p) p 0 0).1 ∧ mI M' 51 0 tk = nI p ∧ mJ M' 52 0 tk = (if 4 < (dgR B n (n - p) p 0 0).2.1 then 0 else (nI (dgR B n (n - p) p 0 0).2.2).toInt64), c_numberFrom Ω M2 B n p tk _ hT2 hpn htk h2.1 h2.2.2 (fun M' q1 q2 q3 q4 => ⟨rfl, q1, q2, q3.trans h2.2.1, q4⟩), trivial, ?_⟩
          rintro r M3 ⟨rfl, q1, q2, q3, q4⟩
          conv => whnf
          refine And.intro hv ?_
          rw [nI_clamp (by omega)]
          exact hK _ ((hU2.trans q1).pI (wT1_k (by omega))) q2 ((mI_ne rfl).trans q3) q4 mI_eq
      · have et : tokAt B n p = (if 8 < (wdR B n (n - p) p 0 0).2.1 then (1, 0, (wdR B n (n - p) p 0 0).1) else (wkR (wdR B n (n - p) p 0 0).2.2 22 0, (wdR B n (n - p) p 0 0).2.2, (wdR B n (n - p) p 0 0).1)) := by
          unfold tokAt
          rw [ebl, if_neg (by decide), cl, if_pos rfl]
        have et1 : (tokAt B n p).1 = (if 8 < (wdR B n (n - p) p 0 0).2.1 then 1 else wkR (wdR B n (n - p) p 0 0).2.2 22 0) := by rw [et]; split <;> rfl
        have et2 : (tokAt B n p).2.1 = (if 8 < (wdR B n (n - p) p 0 0).2.1 then 0 else (wdR B n (n - p) p 0 0).2.2) := by rw [et]; split <;> rfl
        have et3 : (tokAt B n p).2.2 = (wdR B n (n - p) p 0 0).1 := by rw [et]; split <;> rfl
        rw [et1, et2, et3] at hK
        conv => whnf
        refine ⟨fun r M' => r = some (vI (nI (if 8 < (wdR B n (n - p) p 0 0).2.1 then 1 else wkR (wdR B n (n - p) p 0 0).2.2 22 0))) ∧ Un (wT1 tk) M2 M' ∧ mI M' 8 0 7 = nI (wdR B n (n - p) p 0 0).1 ∧ mI M' 51 0 tk = nI p ∧ mJ M' 52 0 tk = (if 8 < (wdR B n (n - p) p 0 0).2.1 then 0 else (wdR B n (n - p) p 0 0).2.2), c_wordFrom Ω M2 B n p tk _ hT2 hpn htk h2.1 h2.2.2 (fun M' q1 q2 q3 q4 => ⟨rfl, q1, q2, q3.trans h2.2.1, q4⟩), trivial, ?_⟩
        rintro r M3 ⟨rfl, q1, q2, q3, q4⟩
        conv => whnf
        refine And.intro hv ?_
        rw [nI_clamp (by omega)]
        exact hK _ ((hU2.trans q1).pI (wT1_k (by omega))) q2 ((mI_ne rfl).trans q3) q4 mI_eq
    · have eb : bA B n p = -1 := if_neg c
      have et : tokAt B n p = (0, 0, p) := by
        unfold tokAt
        rw [if_pos (Bool.eq_false_iff.mpr (fun q => c (Nat.le_of_ble_eq_true q)))]
      rw [et] at hK
      rw [eb]
      refine And.intro (fun e => absurd rfl e) (fun _ => ?_)
      conv => whnf
      refine And.intro hv ?_
      rw [nI_clamp (by omega)]
      exact hK _ (hU2.pI (wT1_k (by omega))) h2.1 ((mI_ne rfl).trans h2.2.1) h2.2.2 mI_eq
  have lp : ∀ (f b : Nat) (M1 : Mem), b + f = n → Un (wT1 tk) M M1 → mI M1 8 0 7 = nI b → skR B n f b = p → GoS Ω true m_Tokens_scanOne K 0 [some (vR (some (8, 0))), some (vI (nI tk)), none] [] M1 0 0 := by
    intro f
    induction f with
    | zero =>
      intro b M1 hb hU h7 he
      have hb : b = n := hb
      have he : b = p := he
      subst he
      refine go_wp ok_Tokens_scanOne [38] 250 _ _ _ _ _ _ ?_
      conv => whnf
      rw [h7, (hT.t1 hU).1.2]
      refine And.intro (fun _ => ?_) (fun q => absurd (nI_le (a := n) (b := b) (by omega) (by omega)) q)
      exact fin M1 hU h7
    | succ f ih =>
      intro b M1 hb hU h7 he
      have hbn : b < n := by omega
      have hB := (hT.2.2.1 b hbn).2
      rw [skR] at he
      refine go_wp ok_Tokens_scanOne [0, 38] 250 _ _ _ _ _ _ ?_
      conv => whnf
      rw [h7, (hT.t1 hU).1.2]
      refine And.intro (fun q => ?_) (fun _ => ?_)
      · rw [nI_leI (by omega) (by omega)] at q; omega
      conv => whnf
      rw [h7]
      refine cl_use (fun K h => c_byteAt Ω M1 B n b K (hT.t1 hU) (by omega) h) trivial ?_
      conv => whnf
      refine cl_use (fun K h => c_isBlank Ω M1 _ K h) trivial ?_
      rw [bA_bl (fun _ => hB)]
      refine br_bz (fun c => ?_) (fun c => ?_)
      · have c : (Nat.ble (b + 1) n && cBl (B b)) = false := c
        rw [c, if_neg (by decide)] at he
        subst he
        exact fin M1 hU h7
      · have c : (Nat.ble (b + 1) n && cBl (B b)) = true := c
        rw [c, if_pos rfl] at he
        conv => whnf
        rw [h7, nI_1]
        exact ih (b + 1) (sI M1 8 0 7 (nI (b + 1))) (by omega) (hU.pI wT1_at) mI_eq he
  exact call_go (hJL rfl) (Nat.le_of_ble_eq_true rfl) (lp (n - a) a M (by omega) Un.rfl hat hp)
/-- what a scan touches -/
def wTa (k _i s : Nat) : Bool := (Nat.beq k 8 && Nat.ble 4 s) || (Nat.beq k 50 || (Nat.beq k 51 || Nat.beq k 52))
/-- the tokens scanned, in the class -/
def TkC (M : Mem) (B : Nat → Nat) (n : Nat) : Prop := ∀ i, rch B n i → (∃ c, i < c ∧ c ≤ 501 ∧ mI M 8 0 4 = nI c) ∧ mI M 50 0 i = nI (tkK B n i) ∧ mI M 51 0 i = nI (psS B n i) ∧ mJ M 52 0 i = tkV B n i
theorem TkC.un {w : Nat → Nat → Nat → Bool} {M M' : Mem} {B : Nat → Nat} {n : Nat} (h : TkC M B n) (hU : Un w M M') (h1 : w 8 0 4 = false) (h2 : ∀ k s, k = 50 ∨ k = 51 ∨ k = 52 → w k 0 s = false) : TkC M' B n := fun i hi => by
  obtain ⟨⟨c, a1, a2, a3⟩, b, c2, d⟩ := h i hi
  exact ⟨⟨c, a1, a2, (hU.I h1).trans a3⟩, (hU.I (h2 _ _ (by omega))).trans b, (hU.I (h2 _ _ (by omega))).trans c2, (hU.J (h2 _ _ (by omega))).trans d⟩
theorem wkR_lt : ∀ (w : Int64) (f i : Nat), i + f ≤ 22 → wkR w f i < 222 := by
  intro w f
  induction f with
  | zero => intro i _; show 2 < 222; decide
  | succ f ih =>
    intro i h
    rw [wkR]
    split
    · omega
    · exact ih (i + 1) (by omega)
theorem sgK_lt (c : Nat) (e : Bool) : sgK c e < 222 := by
  unfold sgK
  split
  · split <;> decide
  · split
    · split <;> decide
    · split
      · split <;> decide
      · split
        · omega
        · decide
theorem tkK_lt (B : Nat → Nat) (n i : Nat) : tkK B n i < 222 := by
  unfold tkK tokAt
  split
  · show (0 : Nat) < 222; decide
  · split
    · split
      · show (1 : Nat) < 222; decide
      · exact wkR_lt _ 22 0 (by decide)
    · split
      · split
        · show (1 : Nat) < 222; decide
        · show (3 : Nat) < 222; decide
      · exact sgK_lt _ _
set_option maxHeartbeats 1000000 in
theorem c_scanAll (Ω : Om) (M : Mem) (B : Nat → Nat) (n : Nat) (K : Ka) (hn : n ≤ 2000) (hB : ∀ i, i < n → mI M 63 0 i &&& 255 = nI (B i) ∧ B i < 256) (hw : ∀ s, s < 22 → mJ M 49 0 s = iJ 49 s)
    (hK : ∀ M', Un wTa M M' → TpC M' B n → TkC M' B n → K none M') :
    CallS Ω true m_Tokens_scanAll [vR (some (8, 0)), vR (some (63, 0)), vI (nI n)] M K := by
  have lp : ∀ (f i a : Nat) (M1 : Mem), i + f = 501 → Un wTa M M1 → TpC M1 B n → a ≤ n → mI M1 8 0 7 = nI a → skR B n (n - a) a = psS B n i → (∀ j, j < i → 2 ≤ tkK B n j) → (∀ j, j < i → mI M1 50 0 j = nI (tkK B n j) ∧ mI M1 51 0 j = nI (psS B n j) ∧ mJ M1 52 0 j = tkV B n j) → mI M1 8 0 4 = nI i → GoS Ω true m_Tokens_scanAll K 22 [some (vR (some (8, 0))), some (vR (some (63, 0))), some (vI (nI n)), some (vI (nI i))] [] M1 0 0 := by
    intro f
    induction f with
    | zero =>
      intro i a M1 hi hU hT ha h7 hs hg hA h4
      refine go_wp ok_Tokens_scanAll [] 250 _ _ _ _ _ _ ?_
      refine And.intro (fun _ => ?_) (fun q => absurd (show (500 : Int32) < nI i from nI_lt (a := 500) (by omega) (by omega)) q)
      exact hK M1 hU hT (fun j hj => ⟨⟨i, by have := hj.1; omega, by omega, h4⟩, hA j (by have := hj.1; omega)⟩)
    | succ f ih =>
      intro i a M1 hi hU hT ha h7 hs hg hA h4
      refine go_wp ok_Tokens_scanAll [22] 250 _ _ _ _ _ _ ?_
      refine And.intro (fun q => absurd q (nI_nlt (a := 500) (by omega) (by decide))) (fun _ => ?_)
      conv => whnf
      refine ⟨fun r M' => r = none ∧ Un (wT1 i) M1 M' ∧ mI M' 8 0 7 = nI (tokAt B n (psS B n i)).2.2 ∧ mI M' 51 0 i = nI (psS B n i) ∧ mJ M' 52 0 i = tkV B n i ∧ mI M' 50 0 i = nI (tkK B n i), c_scanOne Ω M1 B n a i _ hT ha (by omega) h7 (fun M' q1 q2 q3 q4 q5 => ?_), trivial, ?_⟩
      · rw [hs] at q2 q3 q4 q5
        exact ⟨rfl, q1, q2, q3, q4, q5⟩
      rintro r M2 ⟨rfl, q1, q2, q3, q4, q5⟩
      conv => whnf
      refine And.intro (vp_in_nI (by omega) (by decide)) ?_
      rw [nI_clamp (by omega), mI_ne rfl, q5, nI_1]
      have hU3 : Un wTa M (sI M2 8 0 4 (nI (i + 1))) := (hU.trans (q1.mono (fun k i' s h => by
        simp [wTa, wT1, nb_d, nl_d] at h ⊢
        omega))).pI rfl
      have hT3 : TpC (sI M2 8 0 4 (nI (i + 1))) B n := (hT.t1 q1).un (w := fun k _ s => Nat.beq k 8 && Nat.beq s 4) (Un.rfl.pI rfl) rfl rfl (fun _ => rfl) (fun _ => rfl)
      have hA3 : ∀ j, j < i + 1 → mI (sI M2 8 0 4 (nI (i + 1))) 50 0 j = nI (tkK B n j) ∧ mI (sI M2 8 0 4 (nI (i + 1))) 51 0 j = nI (psS B n j) ∧ mJ (sI M2 8 0 4 (nI (i + 1))) 52 0 j = tkV B n j := fun j hj => by
        rw [mI_ne rfl, mI_ne rfl, mJ_sI]
        by_cases e : j = i
        · rw [e]; exact ⟨q5, q3, q4⟩
        · have hw1 : ∀ k, k = 50 ∨ k = 51 ∨ k = 52 → wT1 i k 0 j = false := fun k hk => by
            simp [wT1, nb_d]
            omega
          obtain ⟨z1, z2, z3⟩ := hA j (by omega)
          exact ⟨(q1.I (hw1 50 (by omega))).trans z1, (q1.I (hw1 51 (by omega))).trans z2, (q1.J (hw1 52 (by omega))).trans z3⟩
      have stop : tkK B n i < 2 → K none (sI M2 8 0 4 (nI (i + 1))) := fun hlt => hK _ hU3 hT3 (fun j hj => by
        have : j ≤ i := by
          refine Nat.le_of_not_lt (fun q => ?_)
          have := hj.2 i q
          omega
        exact ⟨⟨i + 1, by omega, by omega, mI_eq⟩, hA3 j (by omega)⟩)
      have hk31 : tkK B n i < 2 ^ 31 := Nat.lt_of_lt_of_le (tkK_lt B n i) (by decide)
      refine And.intro (fun e => ?_) (fun e => ?_)
      · have e := (nI_eq hk31 (b := 0) (by decide)).mp e
        exact stop (by omega)
      · have e : ¬ tkK B n i = 0 := fun q => e (by rw [q]; rfl)
        conv => whnf
        refine And.intro (vp_in_nI (by omega) (by decide)) ?_
        rw [nI_clamp (by omega), mI_ne rfl, q5]
        refine And.intro (fun e2 => ?_) (fun e2 => ?_)
        · have e2 : ¬ tkK B n i = 1 := fun q => e2 (by rw [q]; rfl)
          conv => whnf
          have h7' : mI (sI M2 8 0 4 (nI (i + 1))) 8 0 7 = nI (tokAt B n (psS B n i)).2.2 := (mI_st rfl).trans q2
          have := ih (i + 1) (tokAt B n (psS B n i)).2.2 (sI M2 8 0 4 (nI (i + 1))) (by omega) hU3 hT3 (tokAt_ge (ps_le B n i)).1.2 h7' rfl (fun j hj => ?_) hA3 mI_eq
          · rw [← nI_1] at this
            rw [← nI_1]
            exact this
          · rcases Nat.lt_succ_iff_lt_or_eq.mp hj with q | q
            · exact hg j q
            · rw [q]; omega
        · have e2 := (nI_eq hk31 (b := 1) (by decide)).mp e2
          exact stop (by omega)
  refine call_go (hJL rfl) (Nat.le_of_ble_eq_true rfl) (go_wp ok_Tokens_scanAll [22] 250 _ _ _ _ _ _ ?_)
  conv => whnf
  refine lp 501 0 0 _ rfl ?_ ⟨⟨?_, ?_⟩, hn, fun i hi => hB i hi, hw⟩ (Nat.zero_le _) ?_ rfl (fun j hj => absurd hj (Nat.not_lt_zero _)) (fun j hj => absurd hj (Nat.not_lt_zero _)) mI_eq
  · exact (((Un.rfl.pR rfl).pI rfl).pI rfl).pI rfl
  · rw [mR_sI, mR_sI, mR_sI, mR_sR, if_pos ⟨rfl, rfl, rfl⟩]
  · rw [mI_st rfl, mI_st rfl, mI_eq]
  · rw [mI_st rfl, mI_eq]; rfl
