/-! READ: the class's reader: expressions, II -/
def wEx (t k i s : Nat) : Bool := wUn t k i s || wPn k i s
theorem wEx_un {t : Nat} : ∀ k i s, wEx t k i s = false → wUn t k i s = false := fun k i s h => (Bool.or_eq_false_iff.mp h).1
theorem wEx_pn {t : Nat} : ∀ k i s, wEx t k i s = false → wPn k i s = false := fun k i s h => (Bool.or_eq_false_iff.mp h).2
theorem wEx_re {t : Nat} : ∀ k i s, wEx t k i s = false → wRe k i s = false := fun k i s h => wUn_re k i s (wEx_un k i s h)
theorem wEx_rl {t : Nat} : ∀ k i s, wEx t k i s = false → wRl t k i s = false := fun k i s h => by
  have h1 := wUn_sp k i s (wEx_un k i s h)
  have h2 := wEx_pn k i s h
  unfold wRl
  rw [h1]
  simp [wPn, nb_d] at h2 ⊢
  omega
theorem wp_x {Ω : Om} {K : Ka} {M1 : Mem} {B : Nat → Nat} {n t : Nat} {g : Fa} {x2 x3 x4 : Int32} (hP : PsC M1 B n (.error g)) (hS4 : San4 M1 t) (hS5 : San5 M1) (hE : ∀ M', Un (wEx t) M1 M' → PsC M' B n (.error g) → San4 M' t → K none M') :
    GoS Ω true m_Reader_expression K 165 [some (vR (some (4, 0))), some (vR (some (0, t))), some (vI x2), some (vI x3), some (vI x4)] [] M1 0 0 := by
  refine go_wp ok_Reader_expression [] 250 _ _ _ _ _ _ ?_
  conv => whnf
  refine ⟨fun r M' => r = none ∧ Un (wRl t) M1 M' ∧ San4 M' t, c_release Ω M1 t 1 _ (Or.inl rfl) hS4 hS5 (fun M' a b c _ _ => ⟨rfl, a, b⟩), trivial, ?_⟩
  rintro r M2 ⟨rfl, U2, S2⟩
  conv => whnf
  exact hE M2 (U2.mono wEx_rl) (hP.rl U2) S2
theorem wp_xx {Ω : Om} {K : Ka} {M1 : Mem} {B : Nat → Nat} {n t i : Nat} {g : Fa} {x2 x3 : Int32} (hi : i ≤ 500) (hP : PsC M1 B n (.error g)) (hS4 : San4 M1 t) (hS5 : San5 M1) (hE : ∀ M', Un (wEx t) M1 M' → PsC M' B n (.error g) → San4 M' t → K none M') :
    GoS Ω true m_Reader_expression K 159 [some (vR (some (4, 0))), some (vR (some (0, t))), some (vI x2), some (vI x3), some (vI (nI i))] [] M1 0 0 := by
  refine go_wp ok_Reader_expression [165] 250 _ _ _ _ _ _ ?_
  conv => whnf
  rw [nI_1]
  refine And.intro (fun _ => wp_x hP hS4 hS5 hE) (fun _ => ?_)
  conv => whnf
  rcases rd_fault hP with ⟨fa, e1, e2⟩ | ⟨s, e1, _⟩
  · exact And.intro (fun _ => wp_x hP hS4 hS5 hE) (fun z => absurd z e2)
  · cases e1
theorem tk_500 {B : Nat → Nat} {n a d : Nat} {lt : Option (Nat × Nat)} (h : tkK B n a = d) : tkS B n d (a, a - 1, lt) = if 500 ≤ a then .error (2, a) else .ok (a + 1, a, lt) := by
  unfold tkS; rw [if_pos h]
set_option maxHeartbeats 8000000 in
set_option maxRecDepth 8000 in
theorem wp_ex {Ω : Om} {K : Ka} {M : Mem} {B : Nat → Nat} {n t a0 : Nat} {lt : Option (Nat × Nat)} {tl : Except Fa (Nat × List Cd)}
    (hE : ∀ g M', tl = .error g → Un (wEx t) M M' → PsC M' B n (.error g) → San4 M' t → K none M')
    (hO : ∀ r M', tl = .ok r → Un (wEx t) M M' → PsC M' B n (.ok (r.1, r.1 - 1, lt)) → San4 M' t → (∀ xs, StpC M t xs → xs.length ≤ a0 → StpC M' t (xs ++ r.2.map wdC)) → K none M') :
    ∀ (f i o r0 : Nat) (due : Bool) (P : List Nat) (C : List Cd) (a : Nat) (M1 : Mem), a + f = 501 → i + a0 = a → o ≤ 6 → prS P = some (o, r0) → C.length + noS P + a0 ≤ a → Un (wEx t) M M1 → PsC M1 B n (.ok (a, a - 1, lt)) → PnC M1 P → San4 M1 t → (∀ xs, StpC M t xs → xs.length ≤ a0 → StpC M1 t (xs ++ C.map wdC)) → exS B n f o due P C a = tl →
      GoS Ω true m_Reader_expression K 12 [some (vR (some (4, 0))), some (vR (some (0, t))), some (vI (nI o)), some (vI (bI due)), some (vI (nI i))] [] M1 0 0 := by
  intro f
  induction f with
  | zero => intro i o r0 due P C a M1 hf hi ho hp hl hU hP; have := hP.2.1.1.1; omega
  | succ f ih =>
    intro i o r0 due P C a M1 hf hi ho hp hl hU hP hPn hS hX he
    have ha := hP.2.1.1.1
    have ha : a ≤ 500 := ha
    have hb := pr_bd hp
    have hS5 : San5 M1 := ⟨P.length, by omega, hPn.1.1⟩
    have e4 : mI M1 4 0 4 = 0 := hP.2.2.2.2.2.1
    have e2 : mI M1 4 0 2 = nI (tkK B n a) := hP.2.2.2.1
    have hk := tkK_lt B n a
    have hE' : ∀ g (M' : Mem), tl = .error g → Un (wEx t) M M' → PsC M' B n (.error g) → San4 M' t → ∀ M'', Un (wEx t) M' M'' → PsC M'' B n (.error g) → San4 M'' t → K none M'' := fun g M' h1 h2 _ _ M'' h3 h4 h5 => hE g M'' h1 (h2.trans h3) h4 h5
    rw [exS] at he
    refine go_wp ok_Reader_expression [12, 69, 83, 159, 165] 250 _ _ _ _ _ _ ?_
    refine And.intro (fun z => absurd z (nI_nlt (a := 500) (by omega) (by decide))) (fun _ => ?_)
    conv => whnf
    refine And.intro (fun z => absurd e4 z) (fun _ => ?_)
    conv => whnf
    -- a take at the end of a step
    have step : ∀ (M2 : Mem) (d o' i2 : Nat) (due' : Bool) (x2 x3 : Int32) (P' : List Nat) (C' : List Cd) (r' : Nat), x2 = nI o' → x3 = bI due' → tkK B n a = d → (if 500 ≤ a then .error (2, a) else exS B n f o' due' P' C' (a + 1)) = tl → o' ≤ 6 → prS P' = some (o', r') → C'.length + noS P' + a0 ≤ a + 1 → Un (wEx t) M M2 → PsC M2 B n (tkS B n d (a, a - 1, lt)) → PnC M2 P' → San4 M2 t → San5 M2 → (¬ 500 ≤ a → ∀ xs, StpC M t xs → xs.length ≤ a0 → StpC M2 t (xs ++ C'.map wdC)) →
        GoS Ω true m_Reader_expression K 159 [some (vR (some (4, 0))), some (vR (some (0, t))), some (vI x2), some (vI x3), some (vI (nI i))] [] M2 0 0 := by
      rintro M2 d o' i2 due' x2 x3 P' C' r' rfl rfl hd hel ho' hp' hl' hU2 hP2 hPn2 hS2 hS52 hX2
      rw [tk_500 hd] at hP2
      by_cases h5 : 500 ≤ a
      · rw [if_pos h5] at hP2 hel
        exact wp_xx (by omega) hP2 hS2 hS52 (hE' _ M2 hel.symm hU2 hP2 hS2)
      · rw [if_neg h5] at hP2 hel
        refine go_wp ok_Reader_expression [12] 250 _ _ _ _ _ _ ?_
        conv => whnf
        rw [nI_1]
        exact ih (i + 1) o' r' due' P' C' (a + 1) M2 (by omega) (by omega) ho' hp' hl' hU2 hP2 hPn2 hS2 (hX2 h5) hel
    cases due with
    | true =>
      rw [if_pos rfl] at he
      refine And.intro (fun z => absurd z (show ¬ (1 : Int32) = 0 by decide)) (fun _ => ?_)
      conv => whnf
      rw [e2]
      refine And.intro (fun z => ?_) (fun z => ?_)
      · -- a unit
        have z : ¬ tkK B n a = 40 := fun y => z (by rw [y]; rfl)
        rw [if_neg z] at he
        refine go_wp ok_Reader_expression [159] 250 _ _ _ _ _ _ ?_
        refine And.intro (fun y => absurd y (show ¬ (1 : Int32) = 0 by decide)) (fun _ => ?_)
        conv => whnf
        refine ⟨fun r M' => r = none ∧ Un (wUn t) M1 M' ∧ PsC M' B n (eb (uS B n (a, a - 1, lt)) fun r => .ok r.1) ∧ San4 M' t ∧ (∀ P, PnC M1 P → PnC M' P) ∧ (∀ r xs, uS B n (a, a - 1, lt) = .ok r → StpC M1 t xs → xs.length < 500 → StpC M' t (xs ++ [wdC r.2])), c_unit Ω M1 B n t (a, a - 1, lt) _ hP hS (fun M' a b c d e => ⟨rfl, a, b, c, d, e⟩), trivial, ?_⟩
        rintro r M2 ⟨rfl, U2, P2, S2, N2, A2⟩
        have hU2 := hU.trans (U2.mono wEx_un)
        have hPn2 := N2 P hPn
        have hS52 : San5 M2 := ⟨P.length, by omega, hPn2.1.1⟩
        conv => whnf
        by_cases v : 214 ≤ tkK B n a ∧ tkK B n a ≤ 221
        · rw [if_pos v] at he
          have eu : uS B n (a, a - 1, lt) = eb (tkS B n (tkK B n a) (a, a - 1, lt)) fun s' => .ok (s', (1, nI (tkK B n a - 214))) := by unfold uS; exact if_pos v
          rw [eu, eb_pr, eb_id] at P2
          refine step M2 (tkK B n a) o i false _ _ P (C ++ [(1, nI (tkK B n a - 214))]) r0 rfl rfl rfl he ho hp (by rw [List.length_append]; show C.length + 1 + _ + _ ≤ _; omega) hU2 P2 hPn2 S2 hS52 (fun h5 xs hx hxl => ?_)
          · have := A2 ((a + 1, a, lt), (1, nI (tkK B n a - 214))) (xs ++ C.map wdC) (by rw [eu, tk_500 rfl, if_neg h5, eb_k]) (hX xs hx hxl) (by rw [List.length_append, List.length_map]; omega)
            rw [List.map_append, ← List.append_assoc]
            exact this
        · rw [if_neg v] at he
          have eu : uS B n (a, a - 1, lt) = eb (tkS B n 3 (a, a - 1, lt)) fun s' => .ok (s', (0, (tkV B n s'.2.1).toInt32)) := by unfold uS; exact if_neg v
          rw [eu, eb_pr, eb_id] at P2
          by_cases k3 : tkK B n a = 3
          · rw [if_pos k3] at he
            refine step M2 3 o i false _ _ P (C ++ [(0, (tkV B n a).toInt32)]) r0 rfl rfl k3 he ho hp (by rw [List.length_append]; show C.length + 1 + _ + _ ≤ _; omega) hU2 P2 hPn2 S2 hS52 (fun h5 xs hx hxl => ?_)
            · have := A2 ((a + 1, a, lt), (0, (tkV B n a).toInt32)) (xs ++ C.map wdC) (by rw [eu, tk_500 k3, if_neg h5, eb_k]) (hX xs hx hxl) (by rw [List.length_append, List.length_map]; omega)
              rw [List.map_append, ← List.append_assoc]
              exact this
          · rw [if_neg k3] at he
            have : tkS B n 3 (a, a - 1, lt) = .error (1, a) := by unfold tkS; exact if_neg k3
            rw [this] at P2
            exact wp_xx (by omega) P2 S2 hS52 (hE' _ M2 he.symm hU2 P2 S2)
      · -- opened
        have z : tkK B n a = 40 := (tk_e (c := 40) (by decide)).mp z
        rw [if_pos z] at he
        conv => whnf
        rw [nI_1]
        refine And.intro (fun y => ?_) (fun y => ?_)
        · have y : nI (o + 1) ≤ nI 6 := y
          rw [nI_leI (by omega) (by omega)] at y
          rw [if_neg (by omega)] at he
          conv => whnf
          refine ⟨fun r M' => r = none ∧ Un wPn M1 M' ∧ San5 M' ∧ (∀ P k, PnC M1 P → P.length < 32 → (40 : Int32) = nI k → k < 256 → PnC M' (k :: P)), c_waitFor Ω M1 40 _ hS5 (fun M' a b c => ⟨rfl, a, b, c⟩), trivial, ?_⟩
          rintro r M2 ⟨rfl, U2, S2, A2⟩
          have hPn2 := A2 P 40 hPn (by omega) rfl (by decide)
          conv => whnf
          refine ⟨fun r M' => r = none ∧ Un wRe M2 M' ∧ PsC M' B n (tkS B n 40 (a, a - 1, lt)), c_take Ω M2 B n 40 (.ok (a, a - 1, lt)) _ (by omega) (hP.pn U2) (fun M' a b => ⟨rfl, a, by rw [eb_k] at b; exact b⟩), trivial, ?_⟩
          rintro r M3 ⟨rfl, U3, P3⟩
          conv => whnf
          have hq := pr_open hp
          exact step M3 40 (o + 1) i true _ _ (40 :: P) C 0 rfl rfl z he (by omega) hq.1 (by rw [hq.2]; omega) ((hU.trans (U2.mono wEx_pn)).trans (U3.mono wEx_re)) P3 (hPn2.re U3) ((hS.pn U2).re U3) (S2.re U3) (fun _ xs hx hxl => ((hX xs hx hxl).pn U2).re U3)
        · have y : ¬ nI (o + 1) ≤ nI 6 := y
          rw [nI_leI (by omega) (by omega)] at y
          rw [if_pos (by omega)] at he
          conv => whnf
          refine ⟨fun r M' => r = none ∧ Un wRe M1 M' ∧ PsC M' B n (.error (2, a)), c_stop Ω M1 B n 2 _ _ (Or.inr rfl) hP (fun M' a b => ⟨rfl, a, by rw [eb_k] at b; exact b⟩), trivial, ?_⟩
          rintro r M2 ⟨rfl, U2, P2⟩
          conv => whnf
          refine ⟨fun r M' => r = none ∧ Un wPn M2 M' ∧ San5 M', c_waitFor Ω M2 40 _ (hS5.re U2) (fun M' a b _ => ⟨rfl, a, b⟩), trivial, ?_⟩
          rintro r M3 ⟨rfl, U3, S3⟩
          conv => whnf
          refine ⟨fun r M' => r = none ∧ Un wRe M3 M' ∧ PsC M' B n (.error (2, a)), c_take Ω M3 B n 40 (.error (2, a)) _ (by omega) (P2.pn U3) (fun M' a b => ⟨rfl, a, by rw [eb_x] at b; exact b⟩), trivial, ?_⟩
          rintro r M4 ⟨rfl, U4, P4⟩
          conv => whnf
          have hS4 := ((hS.re U2).pn U3).re U4
          exact wp_xx (by omega) P4 hS4 (S3.re U4) (hE' _ M4 he.symm (((hU.trans (U2.mono wEx_re)).trans (U3.mono wEx_pn)).trans (U4.mono wEx_re)) P4 hS4)
    | false =>
      rw [if_neg (by decide)] at he
      refine And.intro (fun _ => ?_) (fun z => absurd rfl z)
      refine go_wp ok_Reader_expression [83] 250 _ _ _ _ _ _ ?_
      refine And.intro (fun _ => ?_) (fun z => absurd rfl z)
      refine go_wp ok_Reader_expression [159, 165] 250 _ _ _ _ _ _ ?_
      conv => whnf
      rw [e2]
      refine cl_use (fun K h => c_rankOf Ω M1 _ K h) trivial ?_
      rw [rkI_n (by omega)]
      have hrk := rk_le (tkK B n a)
      refine And.intro (fun z => ?_) (fun z => ?_)
      · have z : nI (rk (tkK B n a)) ≤ nI 0 := z
        rw [nI_leI (by omega) (by omega)] at z
        rw [if_neg (by omega)] at he
        refine And.intro (fun y => ?_) (fun y => ?_)
        · have y : nI o ≤ nI 0 := y
          rw [nI_leI (by omega) (by omega)] at y
          rw [if_neg (by omega)] at he
          refine go_wp ok_Reader_expression [] 250 _ _ _ _ _ _ ?_
          conv => whnf
          obtain ⟨r', q1, q2, q3⟩ := pr_rl (q := 1) (Nat.le_refl _) hp
          refine ⟨fun r M' => r = none ∧ Un (wRl t) M1 M' ∧ San4 M' t ∧ (∀ P, PnC M1 P → PnC M' (rlP 1 P)) ∧ (∀ P xs, PnC M1 P → StpC M1 t xs → xs.length + (rlC 1 P).length ≤ 500 → StpC M' t (xs ++ (rlC 1 P).map wdC)), c_release Ω M1 t 1 _ (Or.inl rfl) hS hS5 (fun M' a b _ c d => ⟨rfl, a, b, c, d⟩), trivial, ?_⟩
          rintro r M2 ⟨rfl, U2, S2, _, A2⟩
          conv => whnf
          refine hO _ M2 he.symm (hU.trans (U2.mono wEx_rl)) (hP.rl U2) S2 (fun xs hx hxl => ?_)
          have := A2 P (xs ++ C.map wdC) hPn (hX xs hx hxl) (by rw [List.length_append, List.length_map]; omega)
          rw [List.map_append, ← List.append_assoc]
          exact this
        · have y : ¬ nI o ≤ nI 0 := y
          rw [nI_leI (by omega) (by omega)] at y
          rw [if_pos (by omega)] at he
          obtain ⟨o', rfl⟩ : ∃ o', o = o' + 1 := ⟨o - 1, by omega⟩
          conv => whnf
          rw [pk_m1]
          obtain ⟨r', q1, q2, q3⟩ := pr_rl (q := 1) (Nat.le_refl _) hp
          have r0' : r' = 0 := by omega
          subst r0'
          rcases pr_0 q1 with ⟨e1, e5⟩ | ⟨P', r2, e1, e5, e6⟩
          · omega
          have et : (rlP 1 P).tail = P' := by rw [e1]; rfl
          rw [et, Nat.add_sub_cancel] at he
          rw [Nat.add_sub_cancel] at e6
          have en : noS (rlP 1 P) = noS P' := by rw [e1, noS, if_pos rfl]; omega
          have hb' := pr_bd e6
          refine ⟨fun r M' => r = none ∧ Un (wRl t) M1 M' ∧ San4 M' t ∧ (∀ P, PnC M1 P → PnC M' (rlP 1 P)) ∧ (∀ P xs, PnC M1 P → StpC M1 t xs → xs.length + (rlC 1 P).length ≤ 500 → StpC M' t (xs ++ (rlC 1 P).map wdC)), c_release Ω M1 t 1 _ (Or.inl rfl) hS hS5 (fun M' a b _ c d => ⟨rfl, a, b, c, d⟩), trivial, ?_⟩
          rintro r M2 ⟨rfl, U2, S2, N2, A2⟩
          have hPn2 := N2 P hPn
          rw [e1] at hPn2
          have e9 : mI M2 4 0 9 = nI (P'.length + 1) := hPn2.1.1
          conv => whnf
          rw [e9, nI_pred]
          conv => whnf
          have w9 : wPn 4 0 9 = true := rfl
          have em : (if (0 : Int32) < nI P'.length then nI P'.length else 0) = nI P'.length := by
            by_cases y : (0 : Int32) < nI P'.length
            · rw [if_pos y]
            · rw [if_neg y]
              have y : ¬ nI 0 < nI P'.length := y
              rw [nI_ltI (by omega) (by omega)] at y
              rw [show P'.length = 0 by omega]; rfl
          rw [em]
          have U3 : Un wPn M2 (sI M2 4 0 9 (nI P'.length)) := Un.rfl.pI w9
          refine ⟨fun r M' => r = none ∧ Un wRe (sI M2 4 0 9 (nI P'.length)) M' ∧ PsC M' B n (tkS B n 41 (a, a - 1, lt)), c_take Ω _ B n 41 (.ok (a, a - 1, lt)) _ (by omega) ((hP.rl U2).pn U3) (fun M' a b => ⟨rfl, a, by rw [eb_k] at b; exact b⟩), trivial, ?_⟩
          rintro r M4 ⟨rfl, U4, P4⟩
          conv => whnf
          have hU4 := ((hU.trans (U2.mono wEx_rl)).trans (U3.mono wEx_pn)).trans (U4.mono wEx_re)
          have hS4 : San4 M4 t := (S2.pn U3).re U4
          have hPn3 : PnC (sI M2 4 0 9 (nI P'.length)) P' := ⟨⟨mI_eq, by omega⟩, fun p' hp' => hPn2.2.1 p' (List.mem_cons_of_mem _ hp'), fun j hj => by
            have := hPn2.2.2 (j + 1) (by simp; omega)
            rw [show (40 :: P').length - 1 - (j + 1) = P'.length - 1 - j by simp; omega] at this
            rw [mI_ne rfl]
            exact this⟩
          have hS54 : San5 M4 := ⟨P'.length, by omega, (U4.I rfl).trans mI_eq⟩
          by_cases k41 : tkK B n a = 41
          · rw [if_pos k41] at he
            refine step M4 41 o' i false _ _ P' (C ++ rlC 1 P) r2 rfl rfl k41 he (by omega) e6 (by rw [List.length_append]; omega) hU4 P4 (hPn3.re U4) hS4 hS54 (fun h5 xs hx hxl => ?_)
            have := A2 P (xs ++ C.map wdC) hPn (hX xs hx hxl) (by rw [List.length_append, List.length_map]; omega)
            rw [List.map_append, ← List.append_assoc]
            exact (this.pn U3).re U4
          · rw [if_neg k41] at he
            have : tkS B n 41 (a, a - 1, lt) = .error (1, a) := by unfold tkS; exact if_neg k41
            rw [this] at P4
            exact wp_xx (by omega) P4 hS4 hS54 (hE' _ M4 he.symm hU4 P4 hS4)
      · have z : ¬ nI (rk (tkK B n a)) ≤ nI 0 := z
        rw [nI_leI (by omega) (by omega)] at z
        have z0 : 0 < rk (tkK B n a) := by omega
        rw [if_pos z0] at he
        conv => whnf
        rw [e2]
        refine cl_use (fun K h => c_rankOf Ω M1 _ K h) trivial ?_
        rw [rkI_n (by omega)]
        conv => whnf
        obtain ⟨r', q1, q2, q3⟩ := pr_rl (q := rk (tkK B n a)) z0 hp
        have hq := pr_push q1 q2
        have hb' := pr_bd q1
        refine ⟨fun r M' => r = none ∧ Un (wRl t) M1 M' ∧ San4 M' t ∧ San5 M' ∧ (∀ P, PnC M1 P → PnC M' (rlP (rk (tkK B n a)) P)) ∧ (∀ P xs, PnC M1 P → StpC M1 t xs → xs.length + (rlC (rk (tkK B n a)) P).length ≤ 500 → StpC M' t (xs ++ (rlC (rk (tkK B n a)) P).map wdC)), c_release Ω M1 t (rk (tkK B n a)) _ (by omega) hS hS5 (fun M' a b c d e => ⟨rfl, a, b, c, d, e⟩), trivial, ?_⟩
        rintro r M2 ⟨rfl, U2, S2, S52, N2, A2⟩
        have e22 : mI M2 4 0 2 = nI (tkK B n a) := (U2.I (by simp [wRl, wSp, nb_d])).trans e2
        conv => whnf
        rw [e22]
        refine ⟨fun r M' => r = none ∧ Un wPn M2 M' ∧ San5 M' ∧ (∀ P k, PnC M2 P → P.length < 32 → nI (tkK B n a) = nI k → k < 256 → PnC M' (k :: P)), c_waitFor Ω M2 _ _ S52 (fun M' a b c => ⟨rfl, a, b, c⟩), trivial, ?_⟩
        rintro r M3 ⟨rfl, U3, S53, A3⟩
        have e23 : mI M3 4 0 2 = nI (tkK B n a) := (U3.I rfl).trans e22
        conv => whnf
        rw [e23]
        have hk2 : 2 ≤ tkK B n a := by
          refine Decidable.byContradiction (fun y => ?_)
          have : rk (tkK B n a) = 0 := by unfold rk; rw [if_neg (by omega), if_neg (by omega)]
          omega
        refine ⟨fun r M' => r = none ∧ Un wRe M3 M' ∧ PsC M' B n (tkS B n (tkK B n a) (a, a - 1, lt)), c_take Ω M3 B n (tkK B n a) (.ok (a, a - 1, lt)) _ (by omega) ((hP.rl U2).pn U3) (fun M' a b => ⟨rfl, a, by rw [eb_k] at b; exact b⟩), trivial, ?_⟩
        rintro r M4 ⟨rfl, U4, P4⟩
        conv => whnf
        have hPn2 : PnC M2 (rlP (rk (tkK B n a)) P) := N2 P hPn
        · refine step M4 (tkK B n a) o i true _ _ (tkK B n a :: rlP (rk (tkK B n a)) P) (C ++ rlC (rk (tkK B n a)) P) (rk (tkK B n a)) rfl rfl rfl he ho hq.1 (by rw [List.length_append, hq.2]; omega) (((hU.trans (U2.mono wEx_rl)).trans (U3.mono wEx_pn)).trans (U4.mono wEx_re)) P4 ((A3 _ _ hPn2 (by omega) rfl (by omega)).re U4) ((S2.pn U3).re U4) (S53.re U4) (fun h5 xs hx hxl => ?_)
          have := A2 P (xs ++ C.map wdC) hPn (hX xs hx hxl) (by rw [List.length_append, List.length_map]; omega)
          rw [List.map_append, ← List.append_assoc]
          exact (this.pn U3).re U4
