/-! READ: what is told without a late fault is sound -/
theorem nuS_bd {B : Nat → Nat} {n : Nat} {lo hi : Int32} {s : Ps} {r : Ps × Int32} (h : nuS B n lo hi s = .ok r) (hl : r.1.2.2 = none) : lo.toInt ≤ r.2.toInt ∧ r.2.toInt ≤ hi.toInt := by
  obtain ⟨q, h1, h2⟩ := eb_ok h
  cases h2
  have hb := (bl_none hl).1
  rw [Bool.or_eq_false_iff, decide_eq_false_iff_not, decide_eq_false_iff_not, Int32.lt_iff_toInt_lt, Int32.lt_iff_toInt_lt] at hb
  show lo.toInt ≤ (tkV B n q.2.1).toInt32.toInt ∧ (tkV B n q.2.1).toInt32.toInt ≤ hi.toInt
  omega
def LpG (T : Tx) (k np : Nat) : Prop := (∀ j, j < np → -90 ≤ (T 78 (8 * k + j)).toInt ∧ (T 78 (8 * k + j)).toInt ≤ 90 ∧ -999 ≤ (T 79 (8 * k + j)).toInt ∧ (T 79 (8 * k + j)).toInt ≤ 999) ∧ ∀ j, j + 1 < np → (T 78 (8 * k + j)).toInt < (T 78 (8 * k + (j + 1))).toInt
theorem pt_gd {B : Nat → Nat} {n k np : Nat} {s : Ps} {T : Tx} {r : Ps × Tx} (h : ptS B n k np s T = .ok r) (hl : r.1.2.2 = none) (hG : LpG T k np) : LpG r.2 k (np + 1) ∧ r.2 77 k = nI (np + 1) := by
  obtain ⟨r1, h1, h⟩ := eb_ok h
  obtain ⟨r2, h2, h⟩ := eb_ok h
  cases h
  have g2 := sdS_bd (lim := 999) (by decide) (by decide) h2 hl
  have q := bl_none ((sdS_mo h2).2 hl)
  have g1 := sdS_bd (lim := 90) (by decide) (by decide) h1 q.2
  have e9 : (90 : Int32).toInt = 90 := rfl
  have e99 : (999 : Int32).toInt = 999 := rfl
  rw [e9] at g1
  rw [e99] at g2
  have x78 : ∀ j, upT (upT (upT T 78 (8 * k + np) r1.2) 79 (8 * k + np) r2.2) 77 k (nI (np + 1)) 78 (8 * k + j) = if j = np then r1.2 else T 78 (8 * k + j) := fun j => by
    rw [upT_nf rfl, upT_nf rfl]
    by_cases c : j = np
    · rw [c, upT_eq, if_pos rfl]
    · rw [upT_na (by omega), if_neg c]
  have x79 : ∀ j, upT (upT (upT T 78 (8 * k + np) r1.2) 79 (8 * k + np) r2.2) 77 k (nI (np + 1)) 79 (8 * k + j) = if j = np then r2.2 else T 79 (8 * k + j) := fun j => by
    rw [upT_nf rfl]
    by_cases c : j = np
    · rw [c, upT_eq, if_pos rfl]
    · rw [upT_na (by omega), upT_nf rfl, if_neg c]
  refine ⟨⟨fun j hj => ?_, fun j hj => ?_⟩, upT_eq⟩
  · show -90 ≤ (upT (upT (upT T 78 (8 * k + np) r1.2) 79 (8 * k + np) r2.2) 77 k (nI (np + 1)) 78 (8 * k + j)).toInt ∧ (upT (upT (upT T 78 (8 * k + np) r1.2) 79 (8 * k + np) r2.2) 77 k (nI (np + 1)) 78 (8 * k + j)).toInt ≤ 90 ∧ -999 ≤ (upT (upT (upT T 78 (8 * k + np) r1.2) 79 (8 * k + np) r2.2) 77 k (nI (np + 1)) 79 (8 * k + j)).toInt ∧ (upT (upT (upT T 78 (8 * k + np) r1.2) 79 (8 * k + np) r2.2) 77 k (nI (np + 1)) 79 (8 * k + j)).toInt ≤ 999
    rw [x78, x79]
    by_cases c : j = np
    · rw [if_pos c, if_pos c]
      exact ⟨g1.1, g1.2, g2.1, g2.2⟩
    · rw [if_neg c, if_neg c]
      exact hG.1 j (by omega)
  · show (upT (upT (upT T 78 (8 * k + np) r1.2) 79 (8 * k + np) r2.2) 77 k (nI (np + 1)) 78 (8 * k + j)).toInt < (upT (upT (upT T 78 (8 * k + np) r1.2) 79 (8 * k + np) r2.2) 77 k (nI (np + 1)) 78 (8 * k + (j + 1))).toInt
    rw [x78, x78, if_neg (by omega)]
    by_cases c : j + 1 = np
    · rw [if_pos c]
      have q1 := q.1
      rw [decide_eq_true (show 0 < np by omega), Bool.true_and, decide_eq_false_iff_not, Int32.le_iff_toInt_le] at q1
      rw [show np - 1 = j by omega] at q1
      omega
    · rw [if_neg c]
      exact hG.2 j (by omega)
theorem ptL_gd {B : Nat → Nat} {n k : Nat} : ∀ {f np : Nat} {s : Ps} {T : Tx} {r : Ps × Tx}, ptL B n k f np s T = .ok r → r.1.2.2 = none → LpG T k np → T 77 k = nI np → 2 ≤ np → np ≤ 8 → ∃ m, 2 ≤ m ∧ m ≤ 8 ∧ r.2 77 k = nI m ∧ LpG r.2 k m := by
  intro f
  induction f with
  | zero => intro np s T r h hl hG h7 h2 h8; cases h; exact ⟨np, h2, h8, h7, hG⟩
  | succ f ih =>
    intro np s T r h hl hG h7 h2 h8
    rw [ptL] at h
    split at h
    · obtain ⟨a, h3, h4⟩ := eb_ok h
      split at h4
      · cases h4
      next c =>
        obtain ⟨b, h5, h6⟩ := eb_ok h4
        have hlb : b.1.2.2 = none := (ptL_mo h6).2 hl
        obtain ⟨g1, g2⟩ := pt_gd h5 hlb hG
        exact ih h6 hl g1 g2 (by omega) (by omega)
    · cases h; exact ⟨np, h2, h8, h7, hG⟩
theorem lw_gd {B : Nat → Nat} {n so : Nat} {s : Ps} {C : Cn} {r : Ps × Cn} (h : lwS B n so s C = .ok r) (hl : r.1.2.2 = none) : LwOK (xT r.2) (xl C) := by
  unfold lwS at h
  split at h
  · cases h
  obtain ⟨s1, h1, h⟩ := eb_ok h
  obtain ⟨r1, h2, h⟩ := eb_ok h
  obtain ⟨s2, h3, h⟩ := eb_ok h
  obtain ⟨q1, h4, h⟩ := eb_ok h
  obtain ⟨s3, h5, h⟩ := eb_ok h
  obtain ⟨q2, h6, h⟩ := eb_ok h
  obtain ⟨q3, h7, h⟩ := eb_ok h
  obtain ⟨s4, h8, h⟩ := eb_ok h
  cases h
  have l3 : q3.1.2.2 = none := (tkS_mo h8).1.2 hl
  have l2 : q2.1.2.2 = none := (ptL_mo h7).2 l3
  have l1 : q1.1.2.2 = none := (tkS_mo h5).1.2 ((ptS_mo h6).2 l2)
  obtain ⟨a1, a2⟩ := pt_gd h4 l1 ⟨fun j hj => absurd hj (Nat.not_lt_zero _), fun j hj => absurd hj (Nat.not_lt_zero _)⟩
  obtain ⟨b1, b2⟩ := pt_gd h6 l2 a1
  obtain ⟨m, c1, c2, c3, c4⟩ := ptL_gd h7 l3 b1 b2 (Nat.le_refl _) (by omega)
  exact ⟨m, c3, c1, c2, c4.1, c4.2⟩
/-- names stand for what is told -/
def NmG (N : Nm) (nl nh : Nat) : Prop := ∀ q, q ∈ N → ((q.2.1 = 200 ∨ q.2.1 = 201) → q.2.2 < nl) ∧ (q.2.1 = 202 → q.2.2 < nh)
theorem nmF_mem {N : Nm} {x : Int64} {so k : Nat} (h : nmF N x so = some k) : ∃ q, q ∈ N ∧ q.2.1 = so ∧ q.2.2 = k := by
  unfold nmF at h
  split at h
  · cases h
  next q hq =>
    split at h
    next c => cases h; exact ⟨q, List.mem_of_find?_eq_some hq, c, rfl⟩
    next => cases h
theorem knS_gd {B : Nat → Nat} {n so : Nat} {N : Nm} {s : Ps} {r : Ps × Option Nat} (h : knS B n so s N = .ok r) (hl : r.1.2.2 = none) : ∃ k, r.2 = some k ∧ ∃ q, q ∈ N ∧ q.2.1 = so ∧ q.2.2 = k := by
  obtain ⟨s1, h1, h2⟩ := eb_ok h
  cases h2
  have hb := (bl_none hl).1
  cases hf : nmF N (tkV B n s1.2.1) so with
  | none => rw [hf] at hb; cases hb
  | some k => exact ⟨k, rfl, nmF_mem hf⟩
theorem nmS_gd {B : Nat → Nat} {n so num nl nh nl' nh' : Nat} {s : Ps} {N : Nm} {r : Ps × Nm} (h : nmS B n so num s N = .ok r) (hG : NmG N nl nh) (h1 : nl ≤ nl') (h2 : nh ≤ nh') (h3 : so = 200 ∨ so = 201 → num < nl') (h4 : so = 202 → num < nh') : NmG r.2 nl' nh' := by
  obtain ⟨s1, g1, g2⟩ := eb_ok h
  cases g2
  have old : ∀ q, q ∈ N → ((q.2.1 = 200 ∨ q.2.1 = 201) → q.2.2 < nl') ∧ (q.2.1 = 202 → q.2.2 < nh') := fun q hq => ⟨fun c => Nat.lt_of_lt_of_le ((hG q hq).1 c) h1, fun c => Nat.lt_of_lt_of_le ((hG q hq).2 c) h2⟩
  intro q hq
  have hq : q ∈ (if nmI N (tkV B n s1.2.1) = true then N else N ++ [(tkV B n s1.2.1, so, num)]) := hq
  split at hq
  · exact old q hq
  · rcases List.mem_append.mp hq with m | m
    · exact old q m
    · rw [List.mem_singleton.mp m]; exact ⟨h3, h4⟩
/-- a strip, sound -/
def SqG (T : Tx) (q nl nh : Nat) : Prop := (1 ≤ (T 92 q).toInt ∧ (T 92 q).toInt ≤ 9) ∧ (∃ k, k < nl ∧ T 93 q = nI k) ∧ (∃ k, k < nl ∧ T 94 q = nI k) ∧ (-30 ≤ (T 95 q).toInt ∧ (T 95 q).toInt ≤ 30) ∧ (T 96 q = -1 ∨ ∃ h, h < nh ∧ T 96 q = nI h)
theorem SqG.cg {T T' : Tx} {q nl nh : Nat} (h : SqG T q nl nh) (e : ∀ f, 92 ≤ f → f ≤ 96 → T' f q = T f q) : SqG T' q nl nh := by
  unfold SqG
  rw [e 92 (by decide) (by decide), e 93 (by decide) (by decide), e 94 (by decide) (by decide), e 95 (by decide) (by decide), e 96 (by decide) (by decide)]
  exact h
theorem stp_gd {B : Nat → Nat} {n w ns nl nh : Nat} {N : Nm} {s : Ps} {T : Tx} {r : Ps × Tx} (h : stpS B n w ns N s T = .ok r) (hl : r.1.2.2 = none) (hG : NmG N nl nh) : SqG r.2 (10 * w + ns) nl nh ∧ r.2 86 w = nI (ns + 1) := by
  obtain ⟨r1, h1, h⟩ := eb_ok h
  obtain ⟨r2, h2, h⟩ := eb_ok h
  obtain ⟨r3, h3, h⟩ := eb_ok h
  obtain ⟨r4, h4, h⟩ := eb_ok h
  obtain ⟨r5, h5, h⟩ := eb_ok h
  cases h
  have hl : r5.1.2.2 = none := hl
  have h5 : onS B n N r4.1 = .ok r5 := h5
  have l4 := (onS_mo h5).2 hl
  have l3 := (sdS_mo h4).2 l4
  have l2 := (knS_mo h3).2 l3
  have l1 := (knS_mo h2).2 l2
  have g1 := nuS_bd h1 l1
  obtain ⟨k2, e2, q2, m2, a2, b2⟩ := knS_gd h2 l2
  obtain ⟨k3, e3, q3, m3, a3, b3⟩ := knS_gd h3 l3
  have g4 := sdS_bd (lim := 30) (by decide) (by decide) h4 l4
  refine ⟨⟨?_, ⟨k2, ?_, ?_⟩, ⟨k3, ?_, ?_⟩, ?_, ?_⟩, upT_eq⟩
  · show 1 ≤ (upT (upT (upT (upT (upT (upT T 92 (10 * w + ns) r1.2) 93 (10 * w + ns) (nI (r2.2.getD 0))) 94 (10 * w + ns) (nI (r3.2.getD 0))) 95 (10 * w + ns) r4.2) 96 (10 * w + ns) (hI r5.2)) 86 w (nI (ns + 1)) 92 (10 * w + ns)).toInt ∧ (upT (upT (upT (upT (upT (upT T 92 (10 * w + ns) r1.2) 93 (10 * w + ns) (nI (r2.2.getD 0))) 94 (10 * w + ns) (nI (r3.2.getD 0))) 95 (10 * w + ns) r4.2) 96 (10 * w + ns) (hI r5.2)) 86 w (nI (ns + 1)) 92 (10 * w + ns)).toInt ≤ 9
    rw [upT_nf rfl, upT_nf rfl, upT_nf rfl, upT_nf rfl, upT_nf rfl, upT_eq]
    exact g1
  · rw [← b2]; exact (hG q2 m2).1 (Or.inl a2)
  · show upT (upT (upT (upT (upT (upT T 92 (10 * w + ns) r1.2) 93 (10 * w + ns) (nI (r2.2.getD 0))) 94 (10 * w + ns) (nI (r3.2.getD 0))) 95 (10 * w + ns) r4.2) 96 (10 * w + ns) (hI r5.2)) 86 w (nI (ns + 1)) 93 (10 * w + ns) = nI k2
    rw [upT_nf rfl, upT_nf rfl, upT_nf rfl, upT_nf rfl, upT_eq, e2]
    rfl
  · rw [← b3]; exact (hG q3 m3).1 (Or.inr a3)
  · show upT (upT (upT (upT (upT (upT T 92 (10 * w + ns) r1.2) 93 (10 * w + ns) (nI (r2.2.getD 0))) 94 (10 * w + ns) (nI (r3.2.getD 0))) 95 (10 * w + ns) r4.2) 96 (10 * w + ns) (hI r5.2)) 86 w (nI (ns + 1)) 94 (10 * w + ns) = nI k3
    rw [upT_nf rfl, upT_nf rfl, upT_nf rfl, upT_eq, e3]
    rfl
  · show -30 ≤ (upT (upT (upT (upT (upT (upT T 92 (10 * w + ns) r1.2) 93 (10 * w + ns) (nI (r2.2.getD 0))) 94 (10 * w + ns) (nI (r3.2.getD 0))) 95 (10 * w + ns) r4.2) 96 (10 * w + ns) (hI r5.2)) 86 w (nI (ns + 1)) 95 (10 * w + ns)).toInt ∧ (upT (upT (upT (upT (upT (upT T 92 (10 * w + ns) r1.2) 93 (10 * w + ns) (nI (r2.2.getD 0))) 94 (10 * w + ns) (nI (r3.2.getD 0))) 95 (10 * w + ns) r4.2) 96 (10 * w + ns) (hI r5.2)) 86 w (nI (ns + 1)) 95 (10 * w + ns)).toInt ≤ 30
    rw [upT_nf rfl, upT_nf rfl, upT_eq]
    exact g4
  · show upT (upT (upT (upT (upT (upT T 92 (10 * w + ns) r1.2) 93 (10 * w + ns) (nI (r2.2.getD 0))) 94 (10 * w + ns) (nI (r3.2.getD 0))) 95 (10 * w + ns) r4.2) 96 (10 * w + ns) (hI r5.2)) 86 w (nI (ns + 1)) 96 (10 * w + ns) = -1 ∨ ∃ h, h < nh ∧ upT (upT (upT (upT (upT (upT T 92 (10 * w + ns) r1.2) 93 (10 * w + ns) (nI (r2.2.getD 0))) 94 (10 * w + ns) (nI (r3.2.getD 0))) 95 (10 * w + ns) r4.2) 96 (10 * w + ns) (hI r5.2)) 86 w (nI (ns + 1)) 96 (10 * w + ns) = nI h
    rw [upT_nf rfl, upT_eq]
    unfold onS at h5
    split at h5
    · obtain ⟨s5, c1, c2⟩ := eb_ok h5
      obtain ⟨k5, e5, q5, m5, a5, b5⟩ := knS_gd c2 hl
      rw [e5]
      exact Or.inr ⟨k5, by rw [← b5]; exact (hG q5 m5).2 a5, rfl⟩
    · cases h5
      exact Or.inl rfl
theorem stpL_gd {B : Nat → Nat} {n w nl nh : Nat} {N : Nm} (hG : NmG N nl nh) : ∀ {f ns : Nat} {s : Ps} {T : Tx} {r : Ps × Tx}, stpL B n w N f ns s T = .ok r → r.1.2.2 = none → (∀ i, i < ns → SqG T (10 * w + i) nl nh) → T 86 w = nI ns → 1 ≤ ns → ns ≤ 10 → ∃ m, 1 ≤ m ∧ m ≤ 10 ∧ r.2 86 w = nI m ∧ ∀ i, i < m → SqG r.2 (10 * w + i) nl nh := by
  intro f
  induction f with
  | zero => intro ns s T r h hl hS h8 h1 h10; cases h; exact ⟨ns, h1, h10, h8, hS⟩
  | succ f ih =>
    intro ns s T r h hl hS h8 h1 h10
    rw [stpL] at h
    split at h
    · obtain ⟨a, h3, h4⟩ := eb_ok h
      split at h4
      · cases h4
      next c =>
        obtain ⟨b, h5, h6⟩ := eb_ok h4
        have hlb : b.1.2.2 = none := (stpL_mo h6).2 hl
        obtain ⟨g1, g2⟩ := stp_gd h5 hlb hG
        refine ih h6 hl (fun i hi => ?_) g2 (by omega) (by omega)
        by_cases e : i = ns
        · rw [e]; exact g1
        · exact (hS i (by omega)).cg (fun f _ _ => stpS_T h5 f _ (fun _ => by omega) (fun _ => by omega))
    · cases h; exact ⟨ns, h1, h10, h8, hS⟩
def MkG (T : Tx) (w : Nat) : Prop := (50 ≤ (T 87 w).toInt ∧ (T 87 w).toInt ≤ 2000) ∧ (0 ≤ (T 88 w).toInt ∧ (T 88 w).toInt ≤ 2000) ∧ (-9 ≤ (T 89 w).toInt ∧ (T 89 w).toInt ≤ 9) ∧ (T 90 w = 0 ∨ T 90 w = 1) ∧ (T 90 w = 1 → ∀ j, j < 4 → 1 ≤ (T 91 (4 * w + j)).toInt ∧ (T 91 (4 * w + j)).toInt ≤ 2000)
theorem MkG.de {T : Tx} {w : Nat} : MkG (deT T w) w := by
  unfold deT
  refine ⟨?_, ?_, ?_, ?_, fun e => ?_⟩
  · rw [upT_nf rfl, upT_nf rfl, upT_nf rfl, upT_eq]; exact ⟨by decide, by decide⟩
  · rw [upT_nf rfl, upT_nf rfl, upT_eq]; exact ⟨by decide, by decide⟩
  · rw [upT_nf rfl, upT_eq]; exact ⟨by decide, by decide⟩
  · rw [upT_eq]; exact Or.inl rfl
  · rw [upT_eq] at e; cases e
theorem msS_gd {B : Nat → Nat} {n w : Nat} : ∀ {f i : Nat} {s : Ps} {T : Tx} {r : Ps × Tx}, msS B n w f i s T = .ok r → r.1.2.2 = none → (∀ j, j < i → 1 ≤ (T 91 (4 * w + j)).toInt ∧ (T 91 (4 * w + j)).toInt ≤ 2000) → ∀ j, j < i + f → 1 ≤ (r.2 91 (4 * w + j)).toInt ∧ (r.2 91 (4 * w + j)).toInt ≤ 2000 := by
  intro f
  induction f with
  | zero => intro i s T r h hl hS; cases h; exact hS
  | succ f ih =>
    intro i s T r h hl hS j hj
    obtain ⟨b, h1, h2⟩ := eb_ok h
    have hlb : b.1.2.2 = none := (msS_mo h2).2 hl
    have g := nuS_bd h1 hlb
    refine ih h2 hl (fun j hj => ?_) j (by omega)
    by_cases e : j = i
    · rw [e, upT_eq]; exact g
    · rw [upT_na (by omega)]; exact hS j (by omega)
theorem mkS_gd {B : Nat → Nat} {n w so : Nat} {s : Ps} {T : Tx} {r : Ps × Tx} (h : mkS B n w so s T = .ok r) (hl : r.1.2.2 = none) (hG : MkG T w) : MkG r.2 w := by
  obtain ⟨a1, a2, a3, a4, a5⟩ := hG
  obtain ⟨s1, g1, h⟩ := eb_ok h
  split at h
  · obtain ⟨b, h3, h4⟩ := eb_ok h; cases h4
    have g := nuS_bd h3 hl
    show MkG (upT T 87 w b.2) w
    refine ⟨by rw [upT_eq]; exact g, by rw [upT_nf rfl]; exact a2, by rw [upT_nf rfl]; exact a3, by rw [upT_nf rfl]; exact a4, fun e j hj => ?_⟩
    rw [upT_nf rfl] at e ⊢; exact a5 e j hj
  · split at h
    · obtain ⟨b, h3, h4⟩ := eb_ok h; cases h4
      have g := nuS_bd h3 hl
      show MkG (upT T 88 w b.2) w
      refine ⟨by rw [upT_nf rfl]; exact a1, by rw [upT_eq]; exact g, by rw [upT_nf rfl]; exact a3, by rw [upT_nf rfl]; exact a4, fun e j hj => ?_⟩
      rw [upT_nf rfl] at e ⊢; exact a5 e j hj
    · split at h
      · obtain ⟨b, h3, h4⟩ := eb_ok h; cases h4
        have g := sdS_bd (lim := 9) (by decide) (by decide) h3 hl
        show MkG (upT T 89 w b.2) w
        refine ⟨by rw [upT_nf rfl]; exact a1, by rw [upT_nf rfl]; exact a2, by rw [upT_eq]; exact g, by rw [upT_nf rfl]; exact a4, fun e j hj => ?_⟩
        rw [upT_nf rfl] at e ⊢; exact a5 e j hj
      · obtain ⟨b, h3, h4⟩ := eb_ok h; cases h4
        have e0 : ∀ f a, ¬ f = 91 → b.2 f a = T f a := fun f a c => msS_T h3 f a (fun e => absurd e c)
        show MkG (upT b.2 90 w 1) w
        refine ⟨by rw [upT_nf rfl, e0 _ _ (by decide)]; exact a1, by rw [upT_nf rfl, e0 _ _ (by decide)]; exact a2, by rw [upT_nf rfl, e0 _ _ (by decide)]; exact a3, by rw [upT_eq]; exact Or.inr rfl, fun e j hj => ?_⟩
        rw [upT_nf rfl]
        exact msS_gd h3 hl (fun j hj => absurd hj (Nat.not_lt_zero _)) j (by omega)
theorem mkL_gd {B : Nat → Nat} {n w : Nat} : ∀ {f : Nat} {s : Ps} {T : Tx} {r : Ps × Tx}, mkL B n w f s T = .ok r → r.1.2.2 = none → MkG T w → MkG r.2 w := by
  intro f
  induction f with
  | zero => intro s T r h hl hG; cases h; exact hG
  | succ f ih =>
    intro s T r h hl hG
    rw [mkL] at h
    split at h
    · obtain ⟨b, h3, h4⟩ := eb_ok h
      exact ih h4 hl (mkS_gd h3 ((mkL_mo h4).2 hl) hG)
    · cases h; exact hG
/-- what is told is sound -/
def CnG (C : Cn) : Prop := (xl C ≤ 8 ∧ xh C ≤ 4 ∧ xw C ≤ 4 ∧ xb C ≤ 8) ∧ (∀ k, k < xl C → LwOK (xT C) k) ∧ (∀ h, h < xh C → 1 ≤ (xT C 82 h).toInt ∧ (xT C 82 h).toInt ≤ 30) ∧ (∀ w, w < xw C → MkG (xT C) w ∧ ∃ m, 1 ≤ m ∧ m ≤ 10 ∧ xT C 86 w = nI m ∧ ∀ i, i < m → SqG (xT C) (10 * w + i) (xl C) (xh C)) ∧ NmG (xN C) (xl C) (xh C)
theorem LwOK.cq {T T' : Tx} {k : Nat} (h : LwOK T k) (e1 : T' 77 k = T 77 k) (e2 : ∀ f j, f = 78 ∨ f = 79 → j < 8 → T' f (8 * k + j) = T f (8 * k + j)) : LwOK T' k := by
  obtain ⟨m, h1, h2, h3, h4, h5⟩ := h
  refine ⟨m, e1.trans h1, h2, h3, fun j hj => ?_, fun j hj => ?_⟩
  · show -90 ≤ (T' 78 (8 * k + j)).toInt ∧ (T' 78 (8 * k + j)).toInt ≤ 90 ∧ -999 ≤ (T' 79 (8 * k + j)).toInt ∧ (T' 79 (8 * k + j)).toInt ≤ 999
    rw [e2 78 j (Or.inl rfl) (by omega), e2 79 j (Or.inr rfl) (by omega)]
    exact h4 j hj
  · show (T' 78 (8 * k + j)).toInt < (T' 78 (8 * k + (j + 1))).toInt
    rw [e2 78 j (Or.inl rfl) (by omega), e2 78 (j + 1) (Or.inl rfl) (by omega)]
    exact h5 j hj
theorem MkG.cg {T T' : Tx} {w : Nat} (h : MkG T w) (e1 : ∀ f, 87 ≤ f → f ≤ 90 → T' f w = T f w) (e2 : ∀ j, j < 4 → T' 91 (4 * w + j) = T 91 (4 * w + j)) : MkG T' w := by
  unfold MkG
  rw [e1 87 (by decide) (by decide), e1 88 (by decide) (by decide), e1 89 (by decide) (by decide), e1 90 (by decide) (by decide)]
  refine ⟨h.1, h.2.1, h.2.2.1, h.2.2.2.1, fun e j hj => ?_⟩
  rw [e2 j hj]
  exact h.2.2.2.2 e j hj
theorem SqG.up {T : Tx} {q nl nh nl' nh' : Nat} (h : SqG T q nl nh) (h1 : nl ≤ nl') (h2 : nh ≤ nh') : SqG T q nl' nh' := by
  obtain ⟨a, ⟨k, b1, b2⟩, ⟨k', c1, c2⟩, d, e⟩ := h
  refine ⟨a, ⟨k, by omega, b2⟩, ⟨k', by omega, c2⟩, d, ?_⟩
  rcases e with e | ⟨h, e1, e2⟩
  · exact Or.inl e
  · exact Or.inr ⟨h, by omega, e2⟩
theorem CnG.lw {B : Nat → Nat} {n so : Nat} {s : Ps} {C : Cn} {r : Ps × Cn} (hG : CnG C) (hso : so = 200 ∨ so = 201) (h : lwS B n so s C = .ok r) (hl : r.1.2.2 = none) : CnG r.2 := by
  obtain ⟨⟨b1, b2, b3, b4⟩, a1, a2, a3, a4⟩ := hG
  have g := lw_gd h hl
  obtain ⟨t1, ⟨t2, t3, t4, t5, t6⟩, -⟩ := lwS_T h
  have hx : xl C < 8 := by
    unfold lwS at h
    split at h
    · cases h
    · omega
  have hN : NmG (xN r.2) (xl C + 1) (xh C) := by
    unfold lwS at h
    rw [if_neg (by omega)] at h
    obtain ⟨s1, h1, h⟩ := eb_ok h
    obtain ⟨r1, h2, h⟩ := eb_ok h
    obtain ⟨s2, h3, h⟩ := eb_ok h
    obtain ⟨q1, h4, h⟩ := eb_ok h
    obtain ⟨s3, h5, h⟩ := eb_ok h
    obtain ⟨q2, h6, h⟩ := eb_ok h
    obtain ⟨q3, h7, h⟩ := eb_ok h
    obtain ⟨s4, h8, h⟩ := eb_ok h
    cases h
    exact nmS_gd h2 a4 (Nat.le_succ _) (Nat.le_refl _) (fun _ => Nat.lt_succ_self _) (fun c => by omega)
  unfold CnG
  rw [t2, t3, t4, t5]
  refine ⟨⟨by omega, b2, b3, b4⟩, fun k hk => ?_, fun k hk => ?_, fun w hw => ?_, hN⟩
  · by_cases e : k = xl C
    · rw [e]; exact g
    · exact (a1 k (by omega)).cq (t1 _ _ (fun _ => e) (fun c => by omega)) (fun f j hf hj => t1 _ _ (fun c => by omega) (fun _ => by omega))
  · rw [t1 82 k (fun c => by omega) (fun c => by omega)]
    exact a2 k hk
  · obtain ⟨m1, m, m2, m3, m4, m5⟩ := a3 w hw
    refine ⟨m1.cg (fun f _ _ => t1 _ _ (fun c => by omega) (fun c => by omega)) (fun j _ => t1 _ _ (fun c => by omega) (fun c => by omega)), m, m2, m3, (t1 _ _ (fun c => by omega) (fun c => by omega)).trans m4, fun i hi => ?_⟩
    exact ((m5 i hi).cg (fun f _ _ => t1 _ _ (fun c => by omega) (fun c => by omega))).up (Nat.le_succ _) (Nat.le_refl _)
theorem CnG.hi {B : Nat → Nat} {n : Nat} {s : Ps} {C : Cn} {r : Ps × Cn} (hG : CnG C) (h : hiS B n s C = .ok r) (hl : r.1.2.2 = none) : CnG r.2 := by
  obtain ⟨⟨b1, b2, b3, b4⟩, a1, a2, a3, a4⟩ := hG
  unfold hiS at h
  split at h
  · cases h
  next hx =>
    obtain ⟨s1, h1, h⟩ := eb_ok h
    obtain ⟨r1, h2, h⟩ := eb_ok h
    obtain ⟨q, h3, h⟩ := eb_ok h
    obtain ⟨s2, h4, h⟩ := eb_ok h
    cases h
    have lq : q.1.2.2 = none := (tkS_mo h4).1.2 hl
    have g := nuS_bd h3 lq
    have t1 : ∀ f a, ¬ f = 82 → upT (xT C) 82 (xh C) q.2 f a = xT C f a := fun f a c => upT_nf (by rw [nb_d, decide_eq_false c])
    show (xl C ≤ 8 ∧ xh C + 1 ≤ 4 ∧ xw C ≤ 4 ∧ xb C ≤ 8) ∧ (∀ k, k < xl C → LwOK (upT (xT C) 82 (xh C) q.2) k) ∧ (∀ h, h < xh C + 1 → 1 ≤ (upT (xT C) 82 (xh C) q.2 82 h).toInt ∧ (upT (xT C) 82 (xh C) q.2 82 h).toInt ≤ 30) ∧ (∀ w, w < xw C → MkG (upT (xT C) 82 (xh C) q.2) w ∧ ∃ m, 1 ≤ m ∧ m ≤ 10 ∧ upT (xT C) 82 (xh C) q.2 86 w = nI m ∧ ∀ i, i < m → SqG (upT (xT C) 82 (xh C) q.2) (10 * w + i) (xl C) (xh C + 1)) ∧ NmG r1.2 (xl C) (xh C + 1)
    refine ⟨⟨b1, by omega, b3, b4⟩, fun k hk => ?_, fun k hk => ?_, fun w hw => ?_, nmS_gd h2 a4 (Nat.le_refl _) (Nat.le_succ _) (fun c => by omega) (fun _ => Nat.lt_succ_self _)⟩
    · exact (a1 k hk).cq (t1 _ _ (by decide)) (fun f j hf _ => t1 _ _ (by omega))
    · by_cases e : k = xh C
      · rw [e, upT_eq]; exact g
      · rw [upT_na e]; exact a2 k (by omega)
    · obtain ⟨m1, m, m2, m3, m4, m5⟩ := a3 w hw
      refine ⟨m1.cg (fun f _ _ => t1 _ _ (by omega)) (fun j _ => t1 _ _ (by decide)), m, m2, m3, (t1 _ _ (by decide)).trans m4, fun i hi => ?_⟩
      exact ((m5 i hi).cg (fun f _ _ => t1 _ _ (by omega))).up (Nat.le_refl _) (Nat.le_succ _)
theorem CnG.wi {B : Nat → Nat} {n : Nat} {s : Ps} {C : Cn} {r : Ps × Cn} (hG : CnG C) (h : wiS B n s C = .ok r) (hl : r.1.2.2 = none) : CnG r.2 := by
  obtain ⟨⟨b1, b2, b3, b4⟩, a1, a2, a3, a4⟩ := hG
  obtain ⟨t1, ⟨t2, t3, t4, t5, t6⟩, -⟩ := wiS_T h
  unfold wiS at h
  split at h
  · cases h
  next hx =>
    obtain ⟨s1, h1, h⟩ := eb_ok h
    obtain ⟨r1, h2, h⟩ := eb_ok h
    obtain ⟨s2, h3, h⟩ := eb_ok h
    obtain ⟨q1, h4, h⟩ := eb_ok h
    obtain ⟨q2, h5, h⟩ := eb_ok h
    obtain ⟨q3, h6, h⟩ := eb_ok h
    obtain ⟨s4, h8, h⟩ := eb_ok h
    cases h
    have l3 : q3.1.2.2 = none := (tkS_mo h8).1.2 hl
    have l2 : q2.1.2.2 = none := (mkL_mo h6).2 l3
    have l1 : q1.1.2.2 = none := (stpL_mo h5).2 l2
    have hN := nmS_gd (nl' := xl C) (nh' := xh C) h2 a4 (Nat.le_refl _) (Nat.le_refl _) (fun c => by omega) (fun c => by omega)
    obtain ⟨c1, c2⟩ := stp_gd h4 l1 hN
    obtain ⟨m, d1, d2, d3, d4⟩ := stpL_gd hN h5 l2 (fun i hi => by
      have : i = 0 := by omega
      rw [this]; exact c1) c2 (by decide) (by decide)
    have g := mkL_gd h6 l3 MkG.de
    have u1 : ∀ f a, (f = 86 ∨ 92 ≤ f) → q3.2 f a = q2.2 f a := fun f a hf => (mkL_T h6 f a (fun c => by omega) (fun c => by omega)).trans (deT_ne (fun c => by omega))
    unfold CnG
    rw [t2, t3, t4, t5]
    refine ⟨⟨b1, b2, by omega, b4⟩, fun k hk => ?_, fun k hk => ?_, fun w hw => ?_, hN⟩
    · exact (a1 k hk).cq (t1 _ _ (fun c => by omega) (fun c => by omega) (fun c => by omega)) (fun f j hf hj => t1 _ _ (fun c => by omega) (fun c => by omega) (fun c => by omega))
    · rw [t1 82 k (fun c => by omega) (fun c => by omega) (fun c => by omega)]
      exact a2 k hk
    · by_cases e : w = xw C
      · rw [e]
        refine ⟨g, m, d1, d2, (u1 _ _ (Or.inl rfl)).trans d3, fun i hi => ?_⟩
        exact (d4 i hi).cg (fun f hf _ => u1 _ _ (Or.inr hf))
      · obtain ⟨m1, m, m2, m3, m4, m5⟩ := a3 w (by omega)
        refine ⟨m1.cg (fun f _ _ => t1 _ _ (fun _ => e) (fun c => by omega) (fun c => by omega)) (fun j _ => t1 _ _ (fun c => by omega) (fun _ => by omega) (fun c => by omega)), m, m2, m3, (t1 _ _ (fun _ => e) (fun c => by omega) (fun c => by omega)).trans m4, fun i hi => ?_⟩
        exact (m5 i hi).cg (fun f _ _ => t1 _ _ (fun c => by omega) (fun c => by omega) (fun _ => by omega))
theorem CnG.ba {B : Nat → Nat} {n : Nat} {s : Ps} {C : Cn} {r : Ps × Cn} (hG : CnG C) (h : baS B n s C = .ok r) : CnG r.2 := by
  obtain ⟨⟨b1, b2, b3, b4⟩, a1, a2, a3, a4⟩ := hG
  obtain ⟨⟨t1, t2, t3, t4, t5⟩, -, -, -, -⟩ := baS_T h
  unfold baS at h
  split at h
  · cases h
  next hx =>
    obtain ⟨s1, h1, h⟩ := eb_ok h
    obtain ⟨r1, h2, h⟩ := eb_ok h
    obtain ⟨s2, h3, h⟩ := eb_ok h
    obtain ⟨q, h4, h⟩ := eb_ok h
    obtain ⟨s3, h5, h⟩ := eb_ok h
    cases h
    unfold CnG
    rw [t1, t2, t3, t4, t5]
    exact ⟨⟨b1, b2, b3, by omega⟩, a1, a2, a3, nmS_gd h2 a4 (Nat.le_refl _) (Nat.le_refl _) (fun c => by omega) (fun c => by omega)⟩
theorem CnG.te {B : Nat → Nat} {n : Nat} {s : Ps} {C : Cn} {r : Ps × Cn} (hG : CnG C) (h : teS B n s C = .ok r) (hl : r.1.2.2 = none) : CnG r.2 := by
  unfold teS at h
  split at h
  next c => exact hG.lw c h hl
  · split at h
    · exact hG.hi h hl
    · split at h
      · exact hG.wi h hl
      · split at h
        · exact hG.ba h
        · cases h
theorem CnG.pa {B : Nat → Nat} {n : Nat} : ∀ {f : Nat} {s : Ps} {C : Cn} {r : Ps × Cn}, CnG C → paS B n f s C = .ok r → r.1.2.2 = none → CnG r.2 := by
  intro f
  induction f with
  | zero => intro s C r hG h hl; cases h; exact hG
  | succ f ih =>
    intro s C r hG h hl
    rw [paS] at h
    split at h
    · cases h; exact hG
    · obtain ⟨b, h3, h4⟩ := eb_ok h
      refine ih (hG.te h3 ?_) h4 hl
      have mo : ∀ {f : Nat} {s : Ps} {C : Cn} {r : Ps × Cn}, paS B n f s C = .ok r → r.1.2.2 = none → s.2.2 = none := by
        intro f
        induction f with
        | zero => intro s C r h hl; cases h; exact hl
        | succ f ih2 =>
          intro s C r h hl
          rw [paS] at h
          split at h
          · cases h; exact hl
          · obtain ⟨b, h3, h4⟩ := eb_ok h
            exact (teS_mo h3).1.2 (ih2 h4 hl)
      exact mo h4 hl
