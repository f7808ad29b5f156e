/-! READ: a reading goes on, and a late fault stays -/
/-- r is s or behind it, and late faults stay -/
def Mo (s r : Ps) : Prop := s.1 ≤ r.1 ∧ (r.2.2 = none → s.2.2 = none)
theorem Mo.rfl {s : Ps} : Mo s s := ⟨Nat.le_refl _, id⟩
theorem Mo.trans {a b c : Ps} (h : Mo a b) (h' : Mo b c) : Mo a c := ⟨Nat.le_trans h.1 h'.1, fun q => h.2 (h'.2 q)⟩
theorem Mo.bl {k : Nat} {b : Bool} {s : Ps} : Mo s (blS k b s) := ⟨Nat.le_of_eq (blS_1 k b s).1.symm, fun q => (bl_none q).2⟩
theorem tkS_mo {B : Nat → Nat} {n due : Nat} {s r : Ps} (h : tkS B n due s = .ok r) : Mo s r ∧ s.1 < r.1 := by
  obtain ⟨_, _, rfl⟩ := tkS_ok h
  exact ⟨⟨Nat.le_succ _, id⟩, Nat.lt_succ_self _⟩
theorem nuS_mo {B : Nat → Nat} {n : Nat} {lo hi : Int32} {s : Ps} {r : Ps × Int32} (h : nuS B n lo hi s = .ok r) : Mo s r.1 := by
  obtain ⟨a, h1, h2⟩ := eb_ok h
  cases h2
  exact (tkS_mo h1).1.trans Mo.bl
theorem sdS_mo {B : Nat → Nat} {n : Nat} {lim : Int32} {s : Ps} {r : Ps × Int32} (h : sdS B n lim s = .ok r) : Mo s r.1 := by
  unfold sdS at h
  split at h
  · obtain ⟨a, h1, h2⟩ := eb_ok h
    obtain ⟨b, h3, h4⟩ := eb_ok h2
    cases h4
    have m := nuS_mo h3
    exact (tkS_mo h1).1.trans m
  · exact nuS_mo h
theorem nmS_mo {B : Nat → Nat} {n so nu : Nat} {s : Ps} {N : Nm} {r : Ps × Nm} (h : nmS B n so nu s N = .ok r) : Mo s r.1 := by
  obtain ⟨a, h1, h2⟩ := eb_ok h
  cases h2
  exact (tkS_mo h1).1.trans Mo.bl
theorem knS_mo {B : Nat → Nat} {n so : Nat} {s : Ps} {N : Nm} {r : Ps × Option Nat} (h : knS B n so s N = .ok r) : Mo s r.1 := by
  obtain ⟨a, h1, h2⟩ := eb_ok h
  cases h2
  exact (tkS_mo h1).1.trans Mo.bl
theorem ptS_mo {B : Nat → Nat} {n k np : Nat} {s : Ps} {T : Tx} {r : Ps × Tx} (h : ptS B n k np s T = .ok r) : Mo s r.1 := by
  obtain ⟨a, h1, h2⟩ := eb_ok h
  obtain ⟨b, h3, h4⟩ := eb_ok h2
  cases h4
  exact ((sdS_mo h1).trans Mo.bl).trans (sdS_mo h3)
theorem ptL_mo {B : Nat → Nat} {n k : Nat} : ∀ {f np : Nat} {s : Ps} {T : Tx} {r : Ps × Tx}, ptL B n k f np s T = .ok r → Mo s r.1 := by
  intro f
  induction f with
  | zero => intro np s T r h; cases h; exact Mo.rfl
  | succ f ih =>
    intro np s T r h
    rw [ptL] at h
    split at h
    · obtain ⟨a, h1, h2⟩ := eb_ok h
      split at h2
      · cases h2
      · obtain ⟨b, h3, h4⟩ := eb_ok h2
        exact ((tkS_mo h1).1.trans (ptS_mo h3)).trans (ih h4)
    · cases h; exact Mo.rfl
theorem stpS_mo {B : Nat → Nat} {n w ns : Nat} {N : Nm} {s : Ps} {T : Tx} {r : Ps × Tx} (h : stpS B n w ns N s T = .ok r) : Mo s r.1 := by
  obtain ⟨r1, h1, h⟩ := eb_ok h
  obtain ⟨r2, h2, h⟩ := eb_ok h
  obtain ⟨r3, h3, h⟩ := eb_ok h
  obtain ⟨r4, h4, h⟩ := eb_ok h
  obtain ⟨r5, h5, h⟩ := eb_ok h
  cases h
  have m4 := (((nuS_mo h1).trans (knS_mo h2)).trans (knS_mo h3)).trans (sdS_mo h4)
  split at h5
  · obtain ⟨a, h6, h7⟩ := eb_ok h5
    exact (m4.trans (tkS_mo h6).1).trans (knS_mo h7)
  · cases h5
    exact m4
theorem stpL_mo {B : Nat → Nat} {n w : Nat} {N : Nm} : ∀ {f ns : Nat} {s : Ps} {T : Tx} {r : Ps × Tx}, stpL B n w N f ns s T = .ok r → Mo s r.1 := by
  intro f
  induction f with
  | zero => intro np s T r h; cases h; exact Mo.rfl
  | succ f ih =>
    intro np s T r h
    rw [stpL] at h
    split at h
    · obtain ⟨a, h1, h2⟩ := eb_ok h
      split at h2
      · cases h2
      · obtain ⟨b, h3, h4⟩ := eb_ok h2
        exact ((tkS_mo h1).1.trans (stpS_mo h3)).trans (ih h4)
    · cases h; exact Mo.rfl
theorem msS_mo {B : Nat → Nat} {n w : Nat} : ∀ {f i : Nat} {s : Ps} {T : Tx} {r : Ps × Tx}, msS B n w f i s T = .ok r → Mo s r.1 := by
  intro f
  induction f with
  | zero => intro np s T r h; cases h; exact Mo.rfl
  | succ f ih =>
    intro np s T r h
    rw [msS] at h
    obtain ⟨a, h1, h2⟩ := eb_ok h
    exact (nuS_mo h1).trans (ih h2)
theorem mkS_mo {B : Nat → Nat} {n w so : Nat} {s : Ps} {T : Tx} {r : Ps × Tx} (h : mkS B n w so s T = .ok r) : Mo s r.1 ∧ s.1 < r.1.1 := by
  obtain ⟨a, h1, h⟩ := eb_ok h
  have m1 := tkS_mo h1
  have : Mo a r.1 := by
    split at h
    · obtain ⟨b, h3, h4⟩ := eb_ok h; cases h4; exact nuS_mo h3
    · split at h
      · obtain ⟨b, h3, h4⟩ := eb_ok h; cases h4; exact nuS_mo h3
      · split at h
        · obtain ⟨b, h3, h4⟩ := eb_ok h; cases h4; exact sdS_mo h3
        · obtain ⟨b, h3, h4⟩ := eb_ok h; cases h4; have m := msS_mo h3; exact m
  exact ⟨m1.1.trans this, Nat.lt_of_lt_of_le m1.2 this.1⟩
theorem mkL_mo {B : Nat → Nat} {n w : Nat} : ∀ {f : Nat} {s : Ps} {T : Tx} {r : Ps × Tx}, mkL B n w f s T = .ok r → Mo s r.1 := by
  intro f
  induction f with
  | zero => intro s T r h; cases h; exact Mo.rfl
  | succ f ih =>
    intro s T r h
    rw [mkL] at h
    split at h
    · obtain ⟨b, h3, h4⟩ := eb_ok h
      exact (mkS_mo h3).1.trans (ih h4)
    · cases h; exact Mo.rfl
theorem exS_at {B : Nat → Nat} {n : Nat} : ∀ {f o : Nat} {due : Bool} {P : List Nat} {C : List Cd} {a : Nat} {r : Nat × List Cd}, exS B n f o due P C a = .ok r → a ≤ r.1 ∧ (due = true → a < r.1) := by
  intro f
  induction f with
  | zero => intro o due P C a r h; cases h
  | succ f ih =>
    intro o due P C a r h
    rw [exS] at h
    split at h
    · split at h
      · split at h
        · cases h
        · split at h
          · cases h
          · have := ih h; exact ⟨by omega, fun _ => by omega⟩
      · split at h
        · split at h
          · cases h
          · have := ih h; exact ⟨by omega, fun _ => by omega⟩
        · split at h
          · split at h
            · cases h
            · have := ih h; exact ⟨by omega, fun _ => by omega⟩
          · cases h
    next hd =>
      split at h
      · split at h
        · cases h
        · have := ih h; exact ⟨by omega, fun q => absurd q hd⟩
      · split at h
        · split at h
          · split at h
            · cases h
            · have := ih h; exact ⟨by omega, fun q => absurd q hd⟩
          · cases h
        · cases h; exact ⟨Nat.le_refl _, fun q => absurd q hd⟩
theorem ntS_at {B : Nat → Nat} {n : Nat} : ∀ {f : Nat} {b : Bool} {a : Nat} {r : Nat × Bool}, ntS B n f b a = .ok r → a ≤ r.1 := by
  intro f
  induction f with
  | zero => intro b a r h; cases h
  | succ f ih =>
    intro b a r h
    rw [ntS] at h
    split at h
    · split at h
      · cases h
      · have := ih h; omega
    · cases h; exact Nat.le_refl _
theorem liT_at {B : Nat → Nat} {n a : Nat} {or_ : Bool} {r : Nat × Lt} (h : liT B n or_ a = .ok r) : a + 3 ≤ r.1 := by
  obtain ⟨p, h1, h⟩ := eb_ok h
  obtain ⟨l, h2, h⟩ := eb_ok h
  have e1 := ntS_at h1
  have e2 := (exS_at h2).2 rfl
  split at h
  · split at h
    · cases h
    · obtain ⟨q, h3, h4⟩ := eb_ok h
      cases h4
      have e3 := (exS_at h3).2 rfl
      show a + 3 ≤ q.1
      omega
  · cases h
theorem coS_at {B : Nat → Nat} {n : Nat} : ∀ {f : Nat} {o : Bool} {L : List Lt} {a : Nat} {r : Nat × List Lt}, coS B n f o L a = .ok r → a < r.1 := by
  intro f
  induction f with
  | zero => intro o L a r h; cases h
  | succ f ih =>
    intro o L a r h
    rw [coS] at h
    obtain ⟨p, h1, h⟩ := eb_ok h
    have e1 := liT_at h1
    split at h
    · split at h
      · cases h
      · have := ih h; omega
    · split at h
      · split at h
        · cases h
        · have := ih h; omega
      · cases h
        show a < p.1
        omega
theorem teS_mo {B : Nat → Nat} {n : Nat} {s : Ps} {C : Cn} {r : Ps × Cn} (h : teS B n s C = .ok r) : Mo s r.1 ∧ s.1 < r.1.1 := by
  unfold teS at h
  split at h
  · unfold lwS at h
    split at h
    · cases h
    · obtain ⟨a1, h1, h⟩ := eb_ok h
      obtain ⟨a2, h2, h⟩ := eb_ok h
      obtain ⟨a3, h3, h⟩ := eb_ok h
      obtain ⟨a4, h4, h⟩ := eb_ok h
      obtain ⟨a5, h5, h⟩ := eb_ok h
      obtain ⟨a6, h6, h⟩ := eb_ok h
      obtain ⟨a7, h7, h⟩ := eb_ok h
      obtain ⟨a8, h8, h⟩ := eb_ok h
      cases h
      have m := ((((((nmS_mo h2).trans (tkS_mo h3).1).trans (ptS_mo h4)).trans (tkS_mo h5).1).trans (ptS_mo h6)).trans (ptL_mo h7)).trans (tkS_mo h8).1
      exact ⟨(tkS_mo h1).1.trans m, Nat.lt_of_lt_of_le (tkS_mo h1).2 m.1⟩
  · split at h
    · unfold hiS at h
      split at h
      · cases h
      · obtain ⟨a1, h1, h⟩ := eb_ok h
        obtain ⟨a2, h2, h⟩ := eb_ok h
        obtain ⟨a3, h3, h⟩ := eb_ok h
        obtain ⟨a4, h4, h⟩ := eb_ok h
        cases h
        have m := ((nmS_mo h2).trans (nuS_mo h3)).trans (tkS_mo h4).1
        exact ⟨(tkS_mo h1).1.trans m, Nat.lt_of_lt_of_le (tkS_mo h1).2 m.1⟩
    · split at h
      · unfold wiS at h
        split at h
        · cases h
        · obtain ⟨a1, h1, h⟩ := eb_ok h
          obtain ⟨a2, h2, h⟩ := eb_ok h
          obtain ⟨a3, h3, h⟩ := eb_ok h
          obtain ⟨a4, h4, h⟩ := eb_ok h
          obtain ⟨a5, h5, h⟩ := eb_ok h
          obtain ⟨a6, h6, h⟩ := eb_ok h
          obtain ⟨a7, h7, h⟩ := eb_ok h
          cases h
          have m := (((((nmS_mo h2).trans (tkS_mo h3).1).trans (stpS_mo h4)).trans (stpL_mo h5)).trans (mkL_mo h6)).trans (tkS_mo h7).1
          exact ⟨(tkS_mo h1).1.trans m, Nat.lt_of_lt_of_le (tkS_mo h1).2 m.1⟩
      · split at h
        · unfold baS at h
          split at h
          · cases h
          · obtain ⟨a1, h1, h⟩ := eb_ok h
            obtain ⟨a2, h2, h⟩ := eb_ok h
            obtain ⟨a3, h3, h⟩ := eb_ok h
            obtain ⟨a4, h4, h⟩ := eb_ok h
            obtain ⟨a5, h5, h⟩ := eb_ok h
            cases h
            have e4 := coS_at h4
            have m1 := (nmS_mo h2).trans (tkS_mo h3).1
            have m5 := tkS_mo h5
            have m := (tkS_mo h1).1.trans m1
            have l1 := (tkS_mo h1).2
            refine ⟨⟨?_, fun q => m.2 (m5.1.2 q)⟩, ?_⟩
            · have e1 := m.1
              have e5 : a4.1 < a5.1 := m5.2
              show s.1 ≤ a5.1
              omega
            · have e1 := m1.1
              have e5 : a4.1 < a5.1 := m5.2
              show s.1 < a5.1
              omega
        · cases h
