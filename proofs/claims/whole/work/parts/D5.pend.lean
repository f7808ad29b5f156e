/-! READ: signs that wait, as rows -/
/-- how much is open, and how strongly the last sign binds, if the row is one that can stand -/
def prS : List Nat → Option (Nat × Nat)
  | [] => some (0, 0)
  | p :: P => match prS P with
    | none => none
    | some q => if p = 40 then some (q.1 + 1, 0) else if q.2 < rk p then some (q.1, rk p) else none
/-- how many of them are signs -/
def noS : List Nat → Nat
  | [] => 0
  | p :: P => (if p = 40 then 0 else 1) + noS P
theorem rk_le (p : Nat) : rk p ≤ 2 := by unfold rk; split; omega; split <;> omega
theorem pr_bd : ∀ {P : List Nat} {o r : Nat}, prS P = some (o, r) → r ≤ 2 ∧ noS P ≤ 2 * o + r ∧ noS P + o = P.length := by
  intro P
  induction P with
  | nil => intro o r h; cases h; exact ⟨by decide, by decide, rfl⟩
  | cons p P ih =>
    intro o r h
    rw [prS] at h
    split at h
    · cases h
    next q hq =>
      obtain ⟨o', r'⟩ := q
      have := ih hq
      split at h
      next c =>
        cases h
        refine ⟨by decide, ?_, ?_⟩
        · rw [noS, if_pos c]; show 0 + noS P ≤ 2 * (o' + 1) + 0; omega
        · rw [noS, if_pos c]; show 0 + noS P + (o' + 1) = P.length + 1; omega
      next c =>
        split at h
        next d =>
          cases h
          have d : r' < rk p := d
          have := rk_le p
          refine ⟨this, ?_, ?_⟩
          · rw [noS, if_neg c]; show 1 + noS P ≤ 2 * o' + rk p; omega
          · rw [noS, if_neg c]; show 1 + noS P + o' = P.length + 1; omega
        · cases h
theorem rk_40 : rk 40 = 0 := rfl
theorem pr_rl {q : Nat} (hq : 1 ≤ q) : ∀ {P : List Nat} {o r : Nat}, prS P = some (o, r) → ∃ r', prS (rlP q P) = some (o, r') ∧ r' < q ∧ noS P = noS (rlP q P) + (rlC q P).length := by
  intro P
  induction P with
  | nil => intro o r h; cases h; exact ⟨0, rfl, by omega, rfl⟩
  | cons p P ih =>
    intro o r h
    have h0 := h
    rw [prS] at h
    split at h
    · cases h
    next z hz =>
      obtain ⟨o', r'⟩ := z
      by_cases c : q ≤ rk p
      · rw [rlP, if_pos c, rlC, if_pos c]
        have p40 : ¬ p = 40 := fun e => by rw [e, rk_40] at c; omega
        rw [if_neg p40] at h
        split at h
        · cases h
          obtain ⟨r2, a, b, d⟩ := ih hz
          refine ⟨r2, a, b, ?_⟩
          rw [noS, if_neg p40, d, List.length_cons]
          omega
        · cases h
      · rw [rlP, if_neg c, rlC, if_neg c]
        refine ⟨r, h0, ?_, rfl⟩
        split at h
        · cases h; omega
        · split at h
          · cases h; omega
          · cases h
theorem pr_0 : ∀ {P : List Nat} {o : Nat}, prS P = some (o, 0) → (P = [] ∧ o = 0) ∨ ∃ P' r', P = 40 :: P' ∧ 0 < o ∧ prS P' = some (o - 1, r') := by
  intro P o h
  cases P with
  | nil => cases h; exact Or.inl ⟨rfl, rfl⟩
  | cons p P =>
    rw [prS] at h
    split at h
    · cases h
    next z hz =>
      obtain ⟨o', r'⟩ := z
      split at h
      next c => cases h; exact Or.inr ⟨P, r', by rw [c], by show 0 < o' + 1; omega, hz⟩
      next c =>
        split at h
        next d =>
          have d : r' < rk p := d
          have : rk p = 0 := by have := congrArg (fun z => (z.getD (0, 9)).2) h; exact this
          omega
        · cases h
theorem pr_push {P : List Nat} {o r k : Nat} (h : prS P = some (o, r)) (hk : r < rk k) : prS (k :: P) = some (o, rk k) ∧ noS (k :: P) = noS P + 1 := by
  have k40 : ¬ k = 40 := fun e => by rw [e, rk_40] at hk; omega
  constructor
  · rw [prS, h]
    show (if k = 40 then some (o + 1, 0) else if r < rk k then some (o, rk k) else none) = _
    rw [if_neg k40, if_pos hk]
  · rw [noS, if_neg k40]; omega
theorem pr_open {P : List Nat} {o r : Nat} (h : prS P = some (o, r)) : prS (40 :: P) = some (o + 1, 0) ∧ noS (40 :: P) = noS P := by
  constructor
  · rw [prS, h]
    show (if (40 : Nat) = 40 then some (o + 1, 0) else if r < rk 40 then some (o, rk 40) else none) = _
    rw [if_pos rfl]
  · rw [noS, if_pos rfl]; omega
theorem wfc_end {m : Nat} : ∀ {cs : List Cd} {d e : Nat}, wfc m cs d e → wfc m cs d e := fun h => h
/-- signs that come out keep a row of code sound -/
theorem wf_rl {q : Nat} (hq : 1 ≤ q) : ∀ {P : List Nat} {o r d : Nat}, prS P = some (o, r) → noS P = d → wfc 17 (rlC q P) (d + 1) (d + 1 - (rlC q P).length) := by
  intro P
  induction P with
  | nil => intro o r d h e; exact rfl
  | cons p P ih =>
    intro o r d h e
    rw [prS] at h
    split at h
    · cases h
    next z hz =>
      by_cases c : q ≤ rk p
      · have p40 : ¬ p = 40 := fun e => by rw [e, rk_40] at c; omega
        rw [noS, if_neg p40] at e
        rw [rlC, if_pos c]
        have hop : 2 ≤ opc p ∧ opc p ≤ 5 := by unfold opc; split; omega; split; omega; split <;> omega
        refine Or.inr ⟨hop.1, hop.2, by omega, ?_⟩
        obtain ⟨o', r'⟩ := z
        have := ih hz rfl
        rw [show d + 1 - 1 = noS P + 1 by omega, show d + 1 - ((opc p, (0 : Int32)) :: rlC q P).length = noS P + 1 - (rlC q P).length by rw [List.length_cons]; omega]
        exact this
      · rw [rlC, if_neg c]; rfl
/-- what an expression's code comes to -/
theorem exS_wf {B : Nat → Nat} {n : Nat} : ∀ {f o : Nat} {due : Bool} {P : List Nat} {C : List Cd} {a r0 : Nat} {r : Nat × List Cd}, exS B n f o due P C a = .ok r → o ≤ 6 → prS P = some (o, r0) → wfc 17 C 0 (noS P + if due = true then 0 else 1) → C.length + noS P ≤ a → wfc 17 r.2 0 1 ∧ r.2.length ≤ r.1 ∧ a ≤ r.1 ∧ ∃ D, r.2 = C ++ D ∧ D.length + a ≤ r.1 + noS P := by
  intro f
  induction f with
  | zero => intro o due P C a r0 r h; cases h
  | succ f ih =>
    intro o due P C a r0 r h ho hp hw hl
    have hb := pr_bd hp
    rw [exS] at h
    cases due with
    | true =>
      rw [if_pos rfl] at h
      rw [if_pos rfl] at hw
      split at h
      · split at h
        · cases h
        · split at h
          · cases h
          · have hq := pr_open hp
            obtain ⟨g1, g2, g3, D, g4, g5⟩ := ih h (by omega) hq.1 (by rw [hq.2, if_pos rfl]; exact hw) (by rw [hq.2]; omega)
            exact ⟨g1, g2, by omega, D, g4, by rw [hq.2] at g5; omega⟩
      · split at h
        next hv =>
          split at h
          · cases h
          · obtain ⟨g1, g2, g3, D, g4, g5⟩ := ih h ho hp (by
              rw [if_neg (by decide)]
              refine wfc_app hw (Or.inl ⟨show (1 : Nat) < 2 by decide, fun _ => ⟨tkK B n a - 214, by omega, rfl⟩, by omega, rfl⟩)) (by rw [List.length_append]; show C.length + 1 + _ ≤ _; omega)
            rw [List.append_assoc] at g4
            exact ⟨g1, g2, by omega, _, g4, by rw [List.length_append]; show 1 + D.length + a ≤ _; omega⟩
        · split at h
          · split at h
            · cases h
            · obtain ⟨g1, g2, g3, D, g4, g5⟩ := ih h ho hp (by
                rw [if_neg (by decide)]
                refine wfc_app hw (Or.inl ⟨show (0 : Nat) < 2 by decide, fun e => absurd (show (0 : Nat) = 1 from e) (by decide), by omega, rfl⟩)) (by rw [List.length_append]; show C.length + 1 + _ ≤ _; omega)
              rw [List.append_assoc] at g4
              exact ⟨g1, g2, by omega, _, g4, by rw [List.length_append]; show 1 + D.length + a ≤ _; omega⟩
          · cases h
    | false =>
      rw [if_neg (by decide)] at h hw
      split at h
      next hr =>
        split at h
        · cases h
        · obtain ⟨r', q1, q2, q3⟩ := pr_rl (q := rk (tkK B n a)) hr hp
          have hq := pr_push q1 q2
          have hwr := wf_rl (q := rk (tkK B n a)) hr hp rfl
          obtain ⟨g1, g2, g3, D, g4, g5⟩ := ih h ho hq.1 (by
            rw [if_pos rfl, hq.2, Nat.add_zero]
            refine wfc_app hw ?_
            rw [show noS (rlP (rk (tkK B n a)) P) + 1 = noS P + 1 - (rlC (rk (tkK B n a)) P).length by omega]
            exact hwr) (by rw [List.length_append, hq.2]; omega)
          rw [List.append_assoc] at g4
          exact ⟨g1, g2, by omega, _, g4, by rw [List.length_append]; rw [hq.2] at g5; omega⟩
      · split at h
        next hopen =>
          split at h
          · split at h
            · cases h
            · obtain ⟨r', q1, q2, q3⟩ := pr_rl (q := 1) (Nat.le_refl _) hp
              have r0' : r' = 0 := by omega
              subst r0'
              rcases pr_0 q1 with ⟨e1, e2⟩ | ⟨P', r2, e1, e2, e3⟩
              · omega
              · have hwr := wf_rl (q := 1) (Nat.le_refl _) hp rfl
                have en : noS (rlP 1 P) = noS P' := by rw [e1, noS, if_pos rfl]; omega
                have et : (rlP 1 P).tail = P' := by rw [e1]; rfl
                rw [et] at h
                obtain ⟨g1, g2, g3, D, g4, g5⟩ := ih h (by omega) e3 (by
                  rw [if_neg (by decide)]
                  refine wfc_app hw ?_
                  rw [show noS P' + 1 = noS P + 1 - (rlC 1 P).length by omega]
                  exact hwr) (by rw [List.length_append]; omega)
                rw [List.append_assoc] at g4
                exact ⟨g1, g2, by omega, _, g4, by rw [List.length_append]; omega⟩
          · cases h
        next hopen =>
          cases h
          obtain ⟨r', q1, q2, q3⟩ := pr_rl (q := 1) (Nat.le_refl _) hp
          have r0' : r' = 0 := by omega
          subst r0'
          rcases pr_0 q1 with ⟨e1, e2⟩ | ⟨P', r2, e1, e2, e3⟩
          · have hwr := wf_rl (q := 1) (Nat.le_refl _) hp rfl
            rw [e1] at q3
            have q3 : noS P = 0 + (rlC 1 P).length := q3
            refine ⟨?_, ?_, Nat.le_refl _, _, rfl, by omega⟩
            · refine wfc_app hw ?_
              have : noS P + 1 - (rlC 1 P).length = 1 := by omega
              rw [this] at hwr
              exact hwr
            · rw [List.length_append]; show C.length + _ ≤ a; omega
          · omega
