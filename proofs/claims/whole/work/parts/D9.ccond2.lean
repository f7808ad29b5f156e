/-! READ: the class's reader: conditions, II -/
/-- the sign between both expressions -/
def sgS (B : Nat → Nat) (n : Nat) (s : Ps) : Except Fa Ps := if 4 ≤ tkK B n s.1 ∧ tkK B n s.1 ≤ 7 then tkS B n (tkK B n s.1) s else .error (1, s.1)
theorem San4.ex {M M' : Mem} {t : Nat} {xs : List (Int32 × Int32)} (h : San4 M t) (hU : Un wRe M M') : San4 M' t := h.re hU
theorem lit_eq {B : Nat → Nat} {n a : Nat} {o : Bool} {lt : Option (Nat × Nat)} : eb (liT B n o a) (fun r => .ok (r.1, r.1 - 1, lt)) = eb (eb (eb (eb (ntS B n (501 - a) false a) fun p => .ok (p.1, p.1 - 1, lt)) (exP B n)) (sgS B n)) (exP B n) := by
  unfold liT
  rw [eb_eb, eb_eb, eb_eb, eb_eb]
  refine eb_cg (fun p _ => ?_)
  rw [eb_k]
  unfold exP
  rw [eb_eb, eb_eb]
  show eb (ex B n p.1) _ = eb (ex B n p.1) _
  refine eb_cg (fun l _ => ?_)
  rw [eb_k]
  have e1 : sgS B n (l.1, l.1 - 1, lt) = if 4 ≤ tkK B n l.1 ∧ tkK B n l.1 ≤ 7 then (if 500 ≤ l.1 then .error (2, l.1) else .ok (l.1 + 1, l.1, lt)) else .error (1, l.1) := by
    rw [← tk_500 (B := B) (n := n) (a := l.1) (lt := lt) rfl]; rfl
  show _ = eb (sgS B n (l.1, l.1 - 1, lt)) _
  rw [e1]
  by_cases c : 4 ≤ tkK B n l.1 ∧ tkK B n l.1 ≤ 7
  · rw [if_pos c, if_pos c]
    by_cases h5 : 500 ≤ l.1
    · rw [if_pos h5, if_pos h5, eb_x, eb_x]
    · rw [if_neg h5, if_neg h5, eb_k, eb_eb]
      show eb (ex B n (l.1 + 1)) _ = eb (ex B n (l.1 + 1)) _
      exact eb_cg (fun r _ => by rw [eb_k])
  · rw [if_neg c, if_neg c, eb_x, eb_x]
set_option maxHeartbeats 8000000 in
set_option maxRecDepth 8000 in
theorem cd_lit {Ω : Om} {K : Ka} {M : Mem} {B : Nat → Nat} {n t cnt a : Nat} {o : Bool} {lt : Option (Nat × Nat)} (hc : cnt ≤ 500) (hP : PsC M B n (.ok (a, a - 1, lt))) (hS : San4 M t)
    (hE : ∀ g M', liT B n o a = .error g → Un (wEx t) M M' → PsC M' B n (.error g) → San4 M' t → K none M')
    (hN : ∀ r M' x3 x4, liT B n o a = .ok r → Un (wEx t) M M' → PsC M' B n (.ok (r.1, r.1 - 1, lt)) → San4 M' t → (∀ xs, StpC M t xs → xs.length ≤ a → StpC M' t (xs ++ bdC r.2)) → GoS Ω true m_Reader_condition K 106 [some (vR (some (4, 0))), some (vR (some (0, t))), some (vI (nI cnt)), some (vI x3), some (vI x4)] [] M' 0 0) :
    GoS Ω true m_Reader_condition K 21 [some (vR (some (4, 0))), some (vR (some (0, t))), some (vI (nI cnt)), some (vI (bI false)), some (vI (nI 0))] [] M 0 0 := by
  have ha : a ≤ 500 := hP.2.1.1.1
  refine nt_loop (M := M) (lt := lt) (tl := ntS B n (501 - a) false a) (fun M1 b x4 U1 P1 V1 => ?_) (501 - a) 0 false a M (by omega) (by omega) Un.rfl hP rfl
  generalize hx1 : ntS B n (501 - a) false a = x1 at P1 V1
  have S1 := hS.re U1
  refine go_wp ok_Reader_condition [86, 106] 250 _ _ _ _ _ _ ?_
  conv => whnf
  refine ⟨fun r M' => r = none ∧ Un (wEx t) M1 M' ∧ PsC M' B n (eb (eb x1 fun p => .ok (p.1, p.1 - 1, lt)) (exP B n)) ∧ San4 M' t ∧ (∀ s r xs, (eb x1 fun p => .ok (p.1, p.1 - 1, lt)) = .ok s → ex B n s.1 = .ok r → StpC M1 t xs → xs.length ≤ s.1 → StpC M' t (xs ++ r.2.map wdC)), c_expression Ω M1 B n t _ _ P1 S1 (fun M' a b c d => ⟨rfl, a, b, c, d⟩), trivial, ?_⟩
  rintro r M2 ⟨rfl, U2, P2, S2, A2⟩
  generalize hx2 : eb (eb x1 fun p => .ok (p.1, p.1 - 1, lt)) (exP B n) = x2 at P2
  -- behind the choice of the sign
  have cont : ∀ sg : Int32, (∀ s, x2 = .ok s → (4 ≤ tkK B n s.1 ∧ tkK B n s.1 ≤ 7 → sg = nI (tkK B n s.1)) ∧ (¬ (4 ≤ tkK B n s.1 ∧ tkK B n s.1 ≤ 7) → sg = nI 4)) → GoS Ω true m_Reader_condition K 86 [some (vR (some (4, 0))), some (vR (some (0, t))), some (vI (nI cnt)), some (vI (bI b)), x4] [vI sg] M2 0 0 := by
    intro sg hsg
    refine go_wp ok_Reader_condition [106] 250 _ _ _ _ _ _ ?_
    conv => whnf
    have tk : ∀ K' : Ka, (∀ M', Un wRe M2 M' → PsC M' B n (eb x2 (sgS B n)) → K' none M') → CallS Ω true m_Reader_take [vR (some (4, 0)), vI sg] M2 K' := by
      intro K' hK'
      cases hx : x2 with
      | error g =>
        rw [hx] at P2
        exact c_takeE Ω M2 B n sg g K' P2 (hK' M2 Un.rfl (by rw [hx, eb_x]; exact P2))
      | ok s =>
        rw [hx] at P2
        obtain ⟨h1, h2⟩ := hsg s hx
        by_cases c : 4 ≤ tkK B n s.1 ∧ tkK B n s.1 ≤ 7
        · rw [h1 c]
          refine c_take Ω M2 B n (tkK B n s.1) (.ok s) K' (by omega) P2 (fun M' x y => hK' M' x ?_)
          rw [eb_k] at y
          rw [hx, eb_k]
          unfold sgS
          rw [if_pos c]
          exact y
        · rw [h2 c]
          refine c_take Ω M2 B n 4 (.ok s) K' (by omega) P2 (fun M' x y => hK' M' x ?_)
          rw [eb_k] at y
          rw [hx, eb_k]
          unfold sgS
          rw [if_neg c]
          have : tkS B n 4 s = .error (1, s.1) := by unfold tkS; exact if_neg (fun q => c (by omega))
          rw [this] at y
          exact y
    refine ⟨fun r M' => r = none ∧ Un wRe M2 M' ∧ PsC M' B n (eb x2 (sgS B n)), tk _ (fun M' a b => ⟨rfl, a, b⟩), trivial, ?_⟩
    rintro r M3 ⟨rfl, U3, P3⟩
    generalize hx3 : eb x2 (sgS B n) = x3 at P3
    conv => whnf
    refine ⟨fun r M' => r = none ∧ Un (wEx t) M3 M' ∧ PsC M' B n (eb x3 (exP B n)) ∧ San4 M' t ∧ (∀ s r xs, x3 = .ok s → ex B n s.1 = .ok r → StpC M3 t xs → xs.length ≤ s.1 → StpC M' t (xs ++ r.2.map wdC)), c_expression Ω M3 B n t _ _ P3 (S2.re U3) (fun M' a b c d => ⟨rfl, a, b, c, d⟩), trivial, ?_⟩
    rintro r M4 ⟨rfl, U4, P4, S4, A4⟩
    conv => whnf
    refine ⟨fun r' M' => r' = none ∧ Un (wSp t) M4 M' ∧ San4 M' t ∧ (∀ xs, StpC M4 t xs → xs.length < 500 → StpC M' t (xs ++ [(sg, bI b)])), c_addStep Ω M4 t sg (bI b) _ S4 (fun M' a b c => ⟨rfl, a, b, c⟩), trivial, ?_⟩
    rintro r' M5 ⟨rfl, U5, S5, A5⟩
    conv => whnf
    have UU : Un (wEx t) M M5 := ((((U1.mono wEx_re).trans U2).trans (U3.mono wEx_re)).trans U4).trans (U5.mono (fun k i s h => wUn_sp k i s (wEx_un k i s h)))
    have eq : eb (liT B n o a) (fun r => .ok (r.1, r.1 - 1, lt)) = eb x3 (exP B n) := by rw [lit_eq, hx1, hx2, hx3]
    have P5 := P4.sp U5
    rw [← eq] at P5
    cases hl : liT B n o a with
    | error g =>
      rw [hl, eb_x] at P5
      exact cd_err hc P5 S5 (fun M' a b c => hE g M' hl (UU.trans a) b c)
    | ok r =>
      rw [hl, eb_k] at P5
      refine hN r M5 _ _ hl UU P5 S5 (fun xs hx hxl => ?_)
      obtain ⟨p, g1, hl⟩ := eb_ok hl
      obtain ⟨l, g2, hl⟩ := eb_ok hl
      split at hl
      next c =>
        split at hl
        · cases hl
        next h5 =>
          obtain ⟨q, g3, hl⟩ := eb_ok hl
          cases hl
          have f1 : x1 = .ok p := by rw [← hx1]; exact g1
          have f2 : x2 = .ok (l.1, l.1 - 1, lt) := by
            rw [← hx2, f1, eb_k, eb_k]
            show eb (ex B n p.1) _ = _
            rw [g2, eb_k]
          have f3 : x3 = .ok (l.1 + 1, l.1, lt) := by
            rw [← hx3, f2, eb_k]
            unfold sgS
            rw [if_pos c, tk_500 rfl, if_neg h5]
          have e1 := ntS_at g1
          have w1 := exS_wf g2 (by decide) (show prS [] = some (0, 0) from rfl) (show wfc 17 [] 0 (0 + 0) from rfl) (by show 0 + 0 ≤ p.1; omega)
          have w2 := exS_wf g3 (by decide) (show prS [] = some (0, 0) from rfl) (show wfc 17 [] 0 (0 + 0) from rfl) (by show 0 + 0 ≤ l.1 + 1; omega)
          obtain ⟨D1, d1, d2⟩ := w1.2.2.2
          obtain ⟨D2, d3, d4⟩ := w2.2.2.2
          rw [List.nil_append] at d1 d3
          rw [← d1] at d2
          rw [← d3] at d4
          have d2 : l.2.length + p.1 ≤ l.1 + 0 := d2
          have d4 : q.2.length + (l.1 + 1) ≤ q.1 + 0 := d4
          have hb : b = p.2 := V1 p f1
          have q5 : q.1 ≤ 500 := P5.2.1.1.1
          have z1 := A2 (p.1, p.1 - 1, lt) l xs (by rw [f1, eb_k]) g2 (hx.re U1) (by show xs.length ≤ p.1; omega)
          have z2 := A4 (l.1 + 1, l.1, lt) q (xs ++ l.2.map wdC) f3 g3 (z1.re U3) (by rw [List.length_append, List.length_map]; show _ ≤ l.1 + 1; omega)
          have z3 := A5 _ z2 (by rw [List.length_append, List.length_append, List.length_map, List.length_map]; omega)
          rw [(hsg _ f2).1 c, hb] at z3
          show StpC M5 t (xs ++ ((l.2 ++ q.2).map wdC ++ [(nI (4 + (tkK B n l.1 - 4)), bI p.2)]))
          rw [show 4 + (tkK B n l.1 - 4) = tkK B n l.1 by omega, List.map_append, ← List.append_assoc, ← List.append_assoc]
          exact z3
      · cases hl
  conv => whnf
  refine cl_use (fun K h => c_isComp Ω M2 _ K h) trivial ?_
  refine br_bz (fun c => ?_) (fun c => ?_)
  · conv => whnf
    refine cont 4 (fun s hs => ⟨fun q => ?_, fun _ => rfl⟩)
    rw [hs] at P2
    rw [P2.2.2.2.1, show inR 4 7 (nI (tkK B n s.1)) = (Nat.ble 4 (tkK B n s.1) && Nat.ble (tkK B n s.1) 7) from inR_c (a := 4) (b := 7) (by decide) (by decide) (by have := tkK_lt B n s.1; omega), Nat.ble_eq.mpr q.1, Nat.ble_eq.mpr q.2] at c
    cases c
  · conv => whnf
    refine cont _ (fun s hs => ⟨fun q => ?_, fun q => ?_⟩)
    · rw [hs] at P2
      exact P2.2.2.2.1
    · rw [hs] at P2
      rw [P2.2.2.2.1, show inR 4 7 (nI (tkK B n s.1)) = (Nat.ble 4 (tkK B n s.1) && Nat.ble (tkK B n s.1) 7) from inR_c (a := 4) (b := 7) (by decide) (by decide) (by have := tkK_lt B n s.1; omega)] at c
      exact absurd ⟨Nat.le_of_ble_eq_true (Bool.and_eq_true_iff.mp c).1, Nat.le_of_ble_eq_true (Bool.and_eq_true_iff.mp c).2⟩ q
set_option maxHeartbeats 8000000 in
set_option maxRecDepth 8000 in
theorem cd_loop {Ω : Om} {K : Ka} {M : Mem} {B : Nat → Nat} {n t a0 : Nat} {lt : Option (Nat × Nat)} {tl : Except Fa (Nat × List Lt)}
    (hE : ∀ g M', tl = .error g → Un (wEx t) M M' → PsC M' B n (.error g) → San4 M' t → K none M')
    (hO : ∀ r M', tl = .ok r → Un (wEx t) M M' → PsC M' B n (.ok (r.1, r.1 - 1, lt)) → San4 M' t → (∀ xs, StpC M t xs → xs.length ≤ a0 → StpC M' t (xs ++ BrC r.2)) → K none M') :
    ∀ (f cnt : Nat) (o : Bool) (L : List Lt) (a : Nat) (M1 : Mem) (x3 x4 : Option Vl), cnt + f = 501 → cnt ≤ a → a0 ≤ a → (BrC L ++ orX o L).length + a0 ≤ a → Un (wEx t) M M1 → PsC M1 B n (.ok (a, a - 1, lt)) → San4 M1 t → (∀ xs, StpC M t xs → xs.length ≤ a0 → StpC M1 t (xs ++ (BrC L ++ orX o L))) → coS B n f o L a = tl →
      GoS Ω true m_Reader_condition K 2 [some (vR (some (4, 0))), some (vR (some (0, t))), some (vI (nI cnt)), x3, x4] [] M1 0 0 := by
  intro f
  induction f with
  | zero => intro cnt o L a M1 x3 x4 hf hi ha0 hl hU hP; have := hP.2.1.1.1; omega
  | succ f ih =>
    intro cnt o L a M1 x3 x4 hf hi ha0 hl hU hP hS hX he
    have ha : a ≤ 500 := hP.2.1.1.1
    have e4 : mI M1 4 0 4 = 0 := hP.2.2.2.2.2.1
    rw [coS] at he
    refine go_wp ok_Reader_condition [21] 250 _ _ _ _ _ _ ?_
    refine And.intro (fun z => absurd z (nI_nlt (a := 500) (by omega) (by decide))) (fun _ => ?_)
    conv => whnf
    refine And.intro (fun z => absurd e4 z) (fun _ => ?_)
    conv => whnf
    refine cd_lit (o := o) (by omega) hP hS (fun g M' h1 h2 h3 h4 => hE g M' (by rw [← he, h1, eb_x]) (hU.trans h2) h3 h4) (fun r M2 y3 y4 hr U2 P2 S2 A2 => ?_)
    rw [hr, eb_k] at he
    have hat := liT_at hr
    have hor : r.2.2.2.1 = o := by
      obtain ⟨p, g1, hr⟩ := eb_ok hr
      obtain ⟨l, g2, hr⟩ := eb_ok hr
      split at hr
      · split at hr
        · cases hr
        · obtain ⟨q, g3, hr⟩ := eb_ok hr
          cases hr
          rfl
      · cases hr
    have hlen : (bdC r.2).length + a ≤ r.1 := by
      obtain ⟨p, g1, hr⟩ := eb_ok hr
      obtain ⟨l, g2, hr⟩ := eb_ok hr
      split at hr
      · split at hr
        · cases hr
        · obtain ⟨q, g3, hr⟩ := eb_ok hr
          cases hr
          have e1 := ntS_at g1
          have w1 := exS_wf g2 (by decide) (show prS [] = some (0, 0) from rfl) (show wfc 17 [] 0 (0 + 0) from rfl) (by show 0 + 0 ≤ p.1; omega)
          have w2 := exS_wf g3 (by decide) (show prS [] = some (0, 0) from rfl) (show wfc 17 [] 0 (0 + 0) from rfl) (by show 0 + 0 ≤ l.1 + 1; omega)
          obtain ⟨D1, d1, d2⟩ := w1.2.2.2
          obtain ⟨D2, d3, d4⟩ := w2.2.2.2
          rw [List.nil_append] at d1 d3
          rw [← d1] at d2
          rw [← d3] at d4
          have d2 : l.2.length + p.1 ≤ l.1 + 0 := d2
          have d4 : q.2.length + (l.1 + 1) ≤ q.1 + 0 := d4
          show ((l.2 ++ q.2).map wdC ++ [(nI (4 + (tkK B n l.1 - 4)), bI p.2)]).length + a ≤ q.1
          rw [List.length_append, List.length_map, List.length_append]
          show l.2.length + q.2.length + 1 + a ≤ q.1
          omega
      · cases hr
    have eB : BrC (L ++ [r.2]) = BrC L ++ orX o L ++ bdC r.2 := by rw [BrC_app, hor]
    have A2' : ∀ xs, StpC M t xs → xs.length ≤ a0 → StpC M2 t (xs ++ BrC (L ++ [r.2])) := fun xs hx hxl => by
      rw [eB, ← List.append_assoc]
      exact A2 _ (hX xs hx hxl) (by rw [List.length_append]; omega)
    have lB : (BrC (L ++ [r.2])).length + a0 ≤ r.1 := by
      rw [eB, List.length_append]
      omega
    have hk := tkK_lt B n r.1
    have e2 : mI M2 4 0 2 = nI (tkK B n r.1) := P2.2.2.2.1
    have hr5 : r.1 ≤ 500 := P2.2.1.1.1
    have hU2 := hU.trans U2
    refine go_wp ok_Reader_condition [2, 151] 250 _ _ _ _ _ _ ?_
    conv => whnf
    rw [e2]
    -- on to the next literal
    have nx : ∀ (M3 : Mem) (o' : Bool), (if 500 ≤ r.1 then .error (2, r.1) else coS B n f o' (L ++ [r.2]) (r.1 + 1)) = tl → Un (wEx t) M M3 → PsC M3 B n (if 500 ≤ r.1 then .error (2, r.1) else .ok (r.1 + 1, r.1, lt)) → San4 M3 t → (¬ 500 ≤ r.1 → ∀ xs, StpC M t xs → xs.length ≤ a0 → StpC M3 t (xs ++ (BrC (L ++ [r.2]) ++ orX o' (L ++ [r.2])))) → GoS Ω true m_Reader_condition K 151 [some (vR (some (4, 0))), some (vR (some (0, t))), some (vI (nI cnt)), some (vI y3), some (vI y4)] [] M3 0 0 := by
      intro M3 o' hel hU3 hP3 hS3 hX3
      by_cases h5 : 500 ≤ r.1
      · rw [if_pos h5] at hel hP3
        refine go_wp ok_Reader_condition [] 250 _ _ _ _ _ _ ?_
        conv => whnf
        refine And.intro (fun _ => hE _ M3 hel.symm hU3 hP3 hS3) (fun _ => ?_)
        conv => whnf
        rcases rd_fault hP3 with ⟨fa, e1, e22⟩ | ⟨s, e1, _⟩
        · exact And.intro (fun _ => hE _ M3 hel.symm hU3 hP3 hS3) (fun z => absurd z e22)
        · cases e1
      · rw [if_neg h5] at hel hP3
        refine go_wp ok_Reader_condition [2] 250 _ _ _ _ _ _ ?_
        conv => whnf
        rw [nI_1]
        refine ih (cnt + 1) o' (L ++ [r.2]) (r.1 + 1) M3 _ _ (by omega) (by omega) (by omega) ?_ hU3 hP3 hS3 (hX3 h5) hel
        rw [List.length_append]
        have : (orX o' (L ++ [r.2])).length ≤ 1 := by unfold orX; split <;> simp
        omega
    refine And.intro (fun z => ?_) (fun z => ?_)
    · have z : ¬ tkK B n r.1 = 211 := fun y => z (by rw [y]; rfl)
      rw [if_neg z] at he
      conv => whnf
      rw [e2]
      refine And.intro (fun y => ?_) (fun y => ?_)
      · have y : ¬ tkK B n r.1 = 212 := fun w => y (by rw [w]; rfl)
        rw [if_neg y] at he
        exact hO _ M2 he.symm hU2 P2 S2 A2'
      · have y : tkK B n r.1 = 212 := (tk_e (c := 212) (by decide)).mp y
        rw [if_pos y] at he
        conv => whnf
        refine ⟨fun r' M' => r' = none ∧ Un wRe M2 M' ∧ PsC M' B n (tkS B n 212 (r.1, r.1 - 1, lt)), c_take Ω M2 B n 212 (.ok (r.1, r.1 - 1, lt)) _ (by omega) P2 (fun M' x y => ⟨rfl, x, by rw [eb_k] at y; exact y⟩), trivial, ?_⟩
        rintro r' M3 ⟨rfl, U3, P3⟩
        rw [tk_500 y] at P3
        conv => whnf
        refine nx M3 false he (hU2.trans (U3.mono wEx_re)) P3 (S2.re U3) (fun _ xs hx hxl => ?_)
        rw [show orX false (L ++ [r.2]) = [] from if_neg (fun q => by cases q.1), List.append_nil]
        exact (A2' xs hx hxl).re U3
    · have z : tkK B n r.1 = 211 := (tk_e (c := 211) (by decide)).mp z
      rw [if_pos z] at he
      conv => whnf
      refine ⟨fun r' M' => r' = none ∧ Un wRe M2 M' ∧ PsC M' B n (tkS B n 211 (r.1, r.1 - 1, lt)), c_take Ω M2 B n 211 (.ok (r.1, r.1 - 1, lt)) _ (by omega) P2 (fun M' x y => ⟨rfl, x, by rw [eb_k] at y; exact y⟩), trivial, ?_⟩
      rintro r' M3 ⟨rfl, U3, P3⟩
      rw [tk_500 z] at P3
      conv => whnf
      refine ⟨fun r' M' => r' = none ∧ Un (wSp t) M3 M' ∧ San4 M' t ∧ (∀ xs, StpC M3 t xs → xs.length < 500 → StpC M' t (xs ++ [(211, 0)])), c_addStep Ω M3 t 211 0 _ (S2.re U3) (fun M' a b c => ⟨rfl, a, b, c⟩), trivial, ?_⟩
      rintro r' M4 ⟨rfl, U4, S4, A4⟩
      conv => whnf
      refine nx M4 true he ((hU2.trans (U3.mono wEx_re)).trans (U4.mono (fun k i s h => wUn_sp k i s (wEx_un k i s h)))) (P3.sp U4) S4 (fun h5 xs hx hxl => ?_)
      rw [show orX true (L ++ [r.2]) = [(211, 0)] from if_pos ⟨rfl, by simp⟩, ← List.append_assoc]
      exact A4 _ ((A2' xs hx hxl).re U3) (by rw [List.length_append]; omega)
