/-! READ: the class's reader: conditions -/
def exP (B : Nat → Nat) (n : Nat) (s : Ps) : Except Fa Ps := eb (ex B n s.1) fun r => .ok (r.1, r.1 - 1, s.2.2)
set_option maxHeartbeats 2000000 in
theorem c_expression (Ω : Om) (M : Mem) (B : Nat → Nat) (n t : Nat) (e : Except Fa Ps) (K : Ka) (h : PsC M B n e) (hS : San4 M t)
    (hK : ∀ M', Un (wEx t) M M' → PsC M' B n (eb e (exP B n)) → San4 M' t → (∀ s r xs, e = .ok s → ex B n s.1 = .ok r → StpC M t xs → xs.length ≤ s.1 → StpC M' t (xs ++ r.2.map wdC)) → K none M') :
    CallS Ω true m_Reader_expression [vR (some (4, 0)), vR (some (0, t))] M K := by
  refine call_go (hJL rfl) (Nat.le_of_ble_eq_true rfl) (go_wp ok_Reader_expression [12] 250 _ _ _ _ _ _ ?_)
  conv => whnf
  have U1 : Un wPn M (sI M 4 0 9 0) := Un.rfl.pI rfl
  have hS1 := hS.pn U1
  have hP1 := h.pn U1
  cases e with
  | error g =>
    refine go_wp ok_Reader_expression [165] 250 _ _ _ _ _ _ ?_
    refine And.intro (fun z => absurd z (by decide)) (fun _ => ?_)
    conv => whnf
    rcases rd_fault hP1 with ⟨fa, e1, e2⟩ | ⟨s, e1, _⟩
    · refine And.intro (fun _ => ?_) (fun z => absurd z e2)
      refine wp_x hP1 hS1 ⟨0, by decide, mI_eq⟩ (fun M' a b c => hK M' ((U1.mono wEx_pn).trans a) (by rw [eb_x]; exact b) c (fun s r xs z => by cases z))
    · cases e1
  | ok s =>
    obtain ⟨a, tk, lt⟩ := s
    have htk : tk = a - 1 := h.2.1.2
    subst htk
    have ha : a ≤ 500 := h.2.1.1.1
    refine wp_ex (M := sI M 4 0 9 0) (a0 := a) (lt := lt) (tl := ex B n a) (fun g M' h1 h2 h3 h4 => ?_) (fun r M' h1 h2 h3 h4 h5 => ?_) (501 - a) 0 0 0 true [] [] a (sI M 4 0 9 0) (by omega) (by omega) (by decide) rfl (by show 0 + 0 + a ≤ a; omega) Un.rfl hP1 ⟨⟨mI_eq, by decide⟩, (fun p hp => by cases hp), fun j hj => absurd hj (Nat.not_lt_zero _)⟩ hS1 (fun xs hx _ => by rw [List.map_nil, List.append_nil]; exact hx) rfl
    · refine hK M' ((U1.mono wEx_pn).trans h2) ?_ h4 (fun s r xs z z2 => ?_)
      · rw [eb_k]
        unfold exP
        rw [h1, eb_x]
        exact h3
      · cases z
        rw [h1] at z2
        cases z2
    · refine hK M' ((U1.mono wEx_pn).trans h2) ?_ h4 (fun s r' xs z z2 hx hl => ?_)
      · rw [eb_k]
        unfold exP
        rw [h1, eb_k]
        exact h3
      · cases z
        rw [h1] at z2
        cases z2
        exact h5 xs (hx.pn U1) hl
theorem c_takeE (Ω : Om) (M : Mem) (B : Nat → Nat) (n : Nat) (v : Int32) (g : Fa) (K : Ka) (h : PsC M B n (.error g)) (hK : K none M) : CallS Ω true m_Reader_take [vR (some (4, 0)), vI v] M K := by
  refine call_go (hJL rfl) (Nat.le_of_ble_eq_true rfl) (go_wp ok_Reader_take [] 250 _ _ _ _ _ _ ?_)
  rcases rd_fault h with ⟨fa, e1, e2⟩ | ⟨s, e1, _⟩
  · exact And.intro (fun z => absurd z e2) (fun _ => hK)
  · cases e1
theorem rwC_app (l : Lt) : ∀ ls : List Lt, rwC (ls ++ [l]) = rwC ls ++ (orC l ++ bdC l) := by
  intro ls
  induction ls with
  | nil => show orC l ++ (bdC l ++ []) = [] ++ (orC l ++ bdC l); rw [List.append_nil, List.nil_append]
  | cons x xs ih =>
    show orC x ++ (bdC x ++ rwC (xs ++ [l])) = orC x ++ (bdC x ++ rwC xs) ++ (orC l ++ bdC l)
    rw [ih, List.append_assoc, List.append_assoc]
/-- the or ahead of the next literal -/
def orX (o : Bool) (L : List Lt) : List (Int32 × Int32) := if o = true ∧ L ≠ [] then [(211, 0)] else []
theorem BrC_app (l : Lt) (L : List Lt) : BrC (L ++ [l]) = BrC L ++ orX l.2.2.1 L ++ bdC l := by
  cases L with
  | nil =>
    show bdC l ++ [] = [] ++ orX l.2.2.1 [] ++ bdC l
    unfold orX
    rw [if_neg (fun q => q.2 rfl), List.append_nil]; rfl
  | cons x xs =>
    show bdC x ++ rwC (xs ++ [l]) = bdC x ++ rwC xs ++ orX l.2.2.1 (x :: xs) ++ bdC l
    rw [rwC_app]
    have : orX l.2.2.1 (x :: xs) = orC l := by
      unfold orX orC
      by_cases c : l.2.2.1 = true
      · rw [if_pos ⟨c, by simp⟩, if_pos c]
      · rw [if_neg (fun q => c q.1), if_neg c]
    rw [this, List.append_assoc, List.append_assoc]
/-- from behind a literal on, once a fault stands -/
theorem cd_err {Ω : Om} {K : Ka} {M1 : Mem} {B : Nat → Nat} {n t cnt : Nat} {g : Fa} {x3 x4 : Int32} (hc : cnt ≤ 500) (hP : PsC M1 B n (.error g)) (hS4 : San4 M1 t) (hE : ∀ M', Un (wEx t) M1 M' → PsC M' B n (.error g) → San4 M' t → K none M') :
    GoS Ω true m_Reader_condition K 106 [some (vR (some (4, 0))), some (vR (some (0, t))), some (vI (nI cnt)), some (vI x3), some (vI x4)] [] M1 0 0 := by
  have nx : ∀ M2, Un (wEx t) M1 M2 → PsC M2 B n (.error g) → San4 M2 t → GoS Ω true m_Reader_condition K 151 [some (vR (some (4, 0))), some (vR (some (0, t))), some (vI (nI cnt)), some (vI x3), some (vI x4)] [] M2 0 0 := by
    intro M2 U2 P2 S2
    refine go_wp ok_Reader_condition [] 250 _ _ _ _ _ _ ?_
    conv => whnf
    refine And.intro (fun _ => hE M2 U2 P2 S2) (fun _ => ?_)
    conv => whnf
    rcases rd_fault P2 with ⟨fa, e1, e2⟩ | ⟨s, e1, _⟩
    · exact And.intro (fun _ => hE M2 U2 P2 S2) (fun z => absurd z e2)
    · cases e1
  refine go_wp ok_Reader_condition [151] 250 _ _ _ _ _ _ ?_
  conv => whnf
  refine And.intro (fun _ => ?_) (fun _ => ?_)
  · conv => whnf
    refine And.intro (fun _ => hE M1 Un.rfl hP hS4) (fun _ => ?_)
    conv => whnf
    refine cl_use (fun K h => c_takeE Ω M1 B n 212 g K hP h) trivial ?_
    conv => whnf
    exact nx M1 Un.rfl hP hS4
  · conv => whnf
    refine cl_use (fun K h => c_takeE Ω M1 B n 211 g K hP h) trivial ?_
    conv => whnf
    refine ⟨fun r' M' => r' = none ∧ Un (wSp t) M1 M' ∧ San4 M' t, c_addStep Ω M1 t 211 0 _ hS4 (fun M' a b _ => ⟨rfl, a, b⟩), trivial, ?_⟩
    rintro r' M2 ⟨rfl, U2, S2⟩
    conv => whnf
    exact nx M2 (U2.mono (fun k i s h => wUn_sp k i s (wEx_un k i s h))) (hP.sp U2) S2
/-- the nots -/
theorem nt_loop {Ω : Om} {K : Ka} {M : Mem} {B : Nat → Nat} {n t : Nat} {cnt : Nat} {lt : Option (Nat × Nat)} {tl : Except Fa (Nat × Bool)}
    (hN : ∀ M' b x4, Un wRe M M' → PsC M' B n (eb tl fun p => .ok (p.1, p.1 - 1, lt)) → (∀ p, tl = .ok p → b = p.2) → GoS Ω true m_Reader_condition K 63 [some (vR (some (4, 0))), some (vR (some (0, t))), some (vI (nI cnt)), some (vI (bI b)), x4] [] M' 0 0) :
    ∀ (f i : Nat) (b : Bool) (a : Nat) (M1 : Mem), a + f = 501 → i ≤ a → Un wRe M M1 → PsC M1 B n (.ok (a, a - 1, lt)) → ntS B n f b a = tl →
      GoS Ω true m_Reader_condition K 21 [some (vR (some (4, 0))), some (vR (some (0, t))), some (vI (nI cnt)), some (vI (bI b)), some (vI (nI i))] [] M1 0 0 := by
  intro f
  induction f with
  | zero => intro i b a M1 hf hi hU hP; have := hP.2.1.1.1; omega
  | succ f ih =>
    intro i b a M1 hf hi hU hP he
    have ha : a ≤ 500 := hP.2.1.1.1
    have e4 : mI M1 4 0 4 = 0 := hP.2.2.2.2.2.1
    have e2 : mI M1 4 0 2 = nI (tkK B n a) := hP.2.2.2.1
    rw [ntS] at he
    refine go_wp ok_Reader_condition [21, 63] 250 _ _ _ _ _ _ ?_
    refine And.intro (fun z => absurd z (nI_nlt (a := 500) (by omega) (by decide))) (fun _ => ?_)
    conv => whnf
    refine And.intro (fun z => absurd e4 z) (fun _ => ?_)
    conv => whnf
    rw [e2]
    refine And.intro (fun z => ?_) (fun z => ?_)
    · have z : ¬ tkK B n a = 213 := fun y => z (by rw [y]; rfl)
      rw [if_neg z] at he
      subst he
      exact hN M1 b _ hU (by rw [eb_k]; exact hP) (fun p hp => by cases hp; rfl)
    · have z : tkK B n a = 213 := (tk_e (c := 213) (by decide)).mp z
      rw [if_pos z] at he
      conv => whnf
      refine ⟨fun r M' => r = none ∧ Un wRe M1 M' ∧ PsC M' B n (tkS B n 213 (a, a - 1, lt)), c_take Ω M1 B n 213 (.ok (a, a - 1, lt)) _ (by omega) hP (fun M' x y => ⟨rfl, x, by rw [eb_k] at y; exact y⟩), trivial, ?_⟩
      rintro r M2 ⟨rfl, U2, P2⟩
      rw [tk_500 z] at P2
      conv => whnf
      rw [nI_1, show (1 : Int32) - bI b = bI (!b) by cases b <;> rfl]
      by_cases h5 : 500 ≤ a
      · rw [if_pos h5] at P2 he
        refine go_wp ok_Reader_condition [63] 250 _ _ _ _ _ _ ?_
        refine And.intro (fun _ => ?_) (fun _ => ?_)
        · exact hN M2 _ _ (hU.trans U2) (by rw [← he, eb_x]; exact P2) (fun p hp => by rw [← he] at hp; cases hp)
        · conv => whnf
          rcases rd_fault P2 with ⟨fa, e1, e22⟩ | ⟨s, e1, _⟩
          · exact And.intro (fun _ => hN M2 _ _ (hU.trans U2) (by rw [← he, eb_x]; exact P2) (fun p hp => by rw [← he] at hp; cases hp)) (fun z => absurd z e22)
          · cases e1
      · rw [if_neg h5] at P2 he
        exact ih (i + 1) (!b) (a + 1) M2 (by omega) (by omega) (hU.trans U2) P2 he
