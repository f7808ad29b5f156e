/-! READ: the model's reader: the page that is told, the names told -/
def psz (f : Nat) : Nat := cond (Nat.beq f 75 || (Nat.beq f 76 || Nat.beq f 98)) 8 (cond (Nat.beq f 81 || Nat.beq f 85) 4 (szf f))
/-- what the model writes while it reads into page p -/
def wPr (p k _i s : Nat) : Bool := (Nat.beq k 12 && (Nat.ble 11 s && Nat.ble s 16 || (Nat.beq s 48 || (Nat.beq s 55 || (Nat.beq s 58 || Nat.beq s 60))))) || (Nat.beq k 109 || (Nat.ble 74 k && Nat.ble k 108 && Nat.beq (s / psz k) p))
def pgf (f : Nat) : Bool := (Nat.ble 77 f && Nat.ble f 79) || (Nat.beq f 82 || (Nat.beq f 83 || ((Nat.ble 86 f && Nat.ble f 92) || Nat.beq f 95)))
def nmf (f : Nat) : Bool := Nat.beq f 93 || (Nat.beq f 94 || Nat.beq f 96)
def PgX (P : Nat → Bool) (M : Mem) (p : Nat) (T : Tx) : Prop := ∀ f a, P f = true → a < szf f → mI M f 0 (szf f * p + a) = T f a
theorem PgX.up {P : Nat → Bool} {M : Mem} {p g q b : Nat} {T : Tx} {x : Int32} (h : PgX P M p T) (hq : q = szf g * p + b) : PgX P (sI M g 0 q x) p (upT T g b x) := fun f a hf ha => by
  rw [mI_sI]
  show _ = if f = g ∧ a = b then x else T f a
  by_cases c : f = g ∧ a = b
  · rw [if_pos c, if_pos ⟨c.1, rfl, by rw [hq, c.1, c.2]⟩]
  · rw [if_neg c, if_neg (fun z => c ⟨z.1, by have := z.2.2; rw [hq, z.1] at this; exact Nat.add_left_cancel this⟩)]
    exact h f a hf ha
theorem PgX.ne {P : Nat → Bool} {M : Mem} {p g i q : Nat} {T : Tx} {x : Int32} (h : PgX P M p T) (hg : P g = false) : PgX P (sI M g i q x) p T := fun f a hf ha => by
  rw [mI_sI, if_neg (fun z => by rw [z.1, hg] at hf; cases hf)]
  exact h f a hf ha
theorem PgX.tn {P : Nat → Bool} {M : Mem} {p g b : Nat} {T : Tx} {x : Int32} (h : PgX P M p T) (hg : P g = false) : PgX P M p (upT T g b x) := fun f a hf ha => by
  show _ = if f = g ∧ a = b then x else T f a
  rw [if_neg (fun z => by rw [z.1, hg] at hf; cases hf)]
  exact h f a hf ha
theorem PgX.un {P : Nat → Bool} {w : Nat → Nat → Nat → Bool} {M M' : Mem} {p : Nat} {T : Tx} (h : PgX P M p T) (hU : Un w M M') (hw : ∀ f a, P f = true → w f 0 a = false) : PgX P M' p T := fun f a hf ha => by
  rw [hU.I (hw f _ hf)]
  exact h f a hf ha
theorem pgf_ge {f : Nat} (h : pgf f = true) : 77 ≤ f ∧ f ≤ 95 ∧ ¬ f = 80 ∧ ¬ f = 81 ∧ ¬ f = 84 ∧ ¬ f = 85 ∧ ¬ f = 93 ∧ ¬ f = 94 := by
  simp [pgf, nb_d, nl_d] at h
  omega
theorem nmf_ge {f : Nat} (h : nmf f = true) : f = 93 ∨ f = 94 ∨ f = 96 := by
  simp [nmf, nb_d] at h
  omega
theorem PgX.me {M M' : Mem} {p : Nat} {T : Tx} (h : PgX pgf M p T) (hU : Un wMn M M') : PgX pgf M' p T := h.un hU (fun f a hf => by have := pgf_ge hf; simp [wMn, nb_d]; omega)
/-- one cell -/
def w1 (k0 s0 k _i s : Nat) : Bool := Nat.beq k k0 && Nat.beq s s0
theorem w1_I {M : Mem} {k i q : Nat} {x : Int32} : Un (w1 k q) M (sI M k i q x) := Un.rfl.pI (by simp [w1, nb_d])
theorem w1_J {M : Mem} {k i q : Nat} {x : Int64} : Un (w1 k q) M (sJ M k i q x) := Un.rfl.pJ (by simp [w1, nb_d])
theorem PsM.c1 {M M' : Mem} {B : Nat → Nat} {n k0 q : Nat} {e : Except Fa Ps} (h : PsM M B n e) (hk : 73 ≤ k0) (hU : Un (w1 k0 q) M M') : PsM M' B n e := h.un hU (fun s _ _ _ => by simp [w1, nb_d]; omega) (fun k s h1 h2 => by simp [w1, nb_d]; omega)
theorem PgX.c1 {P : Nat → Bool} {M M' : Mem} {p k0 q : Nat} {T : Tx} (h : PgX P M p T) (hk : P k0 = false) (hU : Un (w1 k0 q) M M') : PgX P M' p T := h.un hU (fun f a hf => by
  have : ¬ f = k0 := fun e => by rw [e, hk] at hf; cases hf
  simp [w1, nb_d, this])
/-- names: what they rest on -/
theorem NmM.cg {M M' : Mem} {p nl nh nw nb : Nat} {N : Nm} (h : NmM M p N nl nh nw nb) (h1 : ∀ k, k < nl → mJ M' 75 0 (8 * p + k) = mJ M 75 0 (8 * p + k) ∧ mI M' 76 0 (8 * p + k) = mI M 76 0 (8 * p + k)) (h2 : ∀ k, k < nh → mJ M' 81 0 (4 * p + k) = mJ M 81 0 (4 * p + k)) (h3 : ∀ k, k < nw → mJ M' 85 0 (4 * p + k) = mJ M 85 0 (4 * p + k)) (h4 : ∀ k, k < nb → mJ M' 98 0 (8 * p + k) = mJ M 98 0 (8 * p + k)) : NmM M' p N nl nh nw nb := by
  obtain ⟨a1, a2, a3, a4, a5, a6⟩ := h
  refine ⟨fun k hk => ?_, fun k hk => ?_, fun k hk => ?_, fun k hk => ?_, fun q hq => ?_, a6⟩
  · rw [(h1 k hk).1, (h1 k hk).2]; exact a1 k hk
  · rw [h2 k hk]; exact a2 k hk
  · rw [h3 k hk]; exact a3 k hk
  · rw [h4 k hk]; exact a4 k hk
  · rcases a5 q hq with ⟨b, c, d⟩ | ⟨b, c, d⟩ | ⟨b, c, d⟩ | ⟨b, c, d⟩
    · exact Or.inl ⟨b, c, ((h1 _ c).1).trans d⟩
    · exact Or.inr (Or.inl ⟨b, c, (h2 _ c).trans d⟩)
    · exact Or.inr (Or.inr (Or.inl ⟨b, c, (h3 _ c).trans d⟩))
    · exact Or.inr (Or.inr (Or.inr ⟨b, c, (h4 _ c).trans d⟩))
theorem nm_new {N : Nm} {x : Int64} (h : nmI N x = false) {so k : Nat} (hN : N.Pairwise (fun a b => ¬ a.1 = b.1)) : (N ++ [(x, so, k)]).Pairwise (fun a b => ¬ a.1 = b.1) := by
  refine List.pairwise_append.mpr ⟨hN, List.pairwise_singleton _ _, fun a ha b hb e => ?_⟩
  rw [List.mem_singleton.mp hb] at e
  have : nmI N x = true := nmI_eq.mpr ⟨a, ha, e⟩
  rw [h] at this
  cases this
theorem nm_or {M : Mem} {p nl nh nw nb nl' nh' nw' nb' : Nat} (hl : nl ≤ nl') (hh : nh ≤ nh') (hw : nw ≤ nw') (hb : nb ≤ nb') {q : Int64 × Nat × Nat} (h : ((q.2.1 = 200 ∨ q.2.1 = 201) ∧ q.2.2 < nl ∧ mJ M 75 0 (8 * p + q.2.2) = q.1) ∨ (q.2.1 = 202 ∧ q.2.2 < nh ∧ mJ M 81 0 (4 * p + q.2.2) = q.1) ∨ (q.2.1 = 203 ∧ q.2.2 < nw ∧ mJ M 85 0 (4 * p + q.2.2) = q.1) ∨ (q.2.1 = 204 ∧ q.2.2 < nb ∧ mJ M 98 0 (8 * p + q.2.2) = q.1)) :
    ((q.2.1 = 200 ∨ q.2.1 = 201) ∧ q.2.2 < nl' ∧ mJ M 75 0 (8 * p + q.2.2) = q.1) ∨ (q.2.1 = 202 ∧ q.2.2 < nh' ∧ mJ M 81 0 (4 * p + q.2.2) = q.1) ∨ (q.2.1 = 203 ∧ q.2.2 < nw' ∧ mJ M 85 0 (4 * p + q.2.2) = q.1) ∨ (q.2.1 = 204 ∧ q.2.2 < nb' ∧ mJ M 98 0 (8 * p + q.2.2) = q.1) := by
  rcases h with ⟨b, c, d⟩ | ⟨b, c, d⟩ | ⟨b, c, d⟩ | ⟨b, c, d⟩
  · exact Or.inl ⟨b, by omega, d⟩
  · exact Or.inr (Or.inl ⟨b, by omega, d⟩)
  · exact Or.inr (Or.inr (Or.inl ⟨b, by omega, d⟩))
  · exact Or.inr (Or.inr (Or.inr ⟨b, by omega, d⟩))
theorem NmM.law1 {M : Mem} {p nl nh nw nb so : Nat} {N : Nm} {x : Int64} (h : NmM M p N nl nh nw nb) (hx : nmI N x = false) (h1 : mJ M 75 0 (8 * p + nl) = x) (h2 : so = 200 ∧ mI M 76 0 (8 * p + nl) = 0 ∨ so = 201 ∧ mI M 76 0 (8 * p + nl) = 1) : NmM M p (N ++ [(x, so, nl)]) (nl + 1) nh nw nb := by
  obtain ⟨a1, a2, a3, a4, a5, a6⟩ := h
  refine ⟨fun k hk => ?_, fun k hk => List.mem_append_left _ (a2 k hk), fun k hk => List.mem_append_left _ (a3 k hk), fun k hk => List.mem_append_left _ (a4 k hk), fun q hq => ?_, nm_new hx a6⟩
  · by_cases e : k = nl
    · rw [e, h1]
      exact ⟨so, h2, List.mem_append_right _ (List.mem_singleton.mpr rfl)⟩
    · obtain ⟨so', b1, b2⟩ := a1 k (by omega)
      exact ⟨so', b1, List.mem_append_left _ b2⟩
  · rcases List.mem_append.mp hq with m | m
    · exact nm_or (Nat.le_succ _) (Nat.le_refl _) (Nat.le_refl _) (Nat.le_refl _) (a5 q m)
    · rw [List.mem_singleton.mp m]
      refine Or.inl ⟨?_, Nat.lt_succ_self _, h1⟩
      rcases h2 with c | c
      · exact Or.inl c.1
      · exact Or.inr c.1
theorem NmM.hin1 {M : Mem} {p nl nh nw nb : Nat} {N : Nm} {x : Int64} (h : NmM M p N nl nh nw nb) (hx : nmI N x = false) (h1 : mJ M 81 0 (4 * p + nh) = x) : NmM M p (N ++ [(x, 202, nh)]) nl (nh + 1) nw nb := by
  obtain ⟨a1, a2, a3, a4, a5, a6⟩ := h
  refine ⟨fun k hk => ?_, fun k hk => ?_, fun k hk => List.mem_append_left _ (a3 k hk), fun k hk => List.mem_append_left _ (a4 k hk), fun q hq => ?_, nm_new hx a6⟩
  · obtain ⟨so', b1, b2⟩ := a1 k hk
    exact ⟨so', b1, List.mem_append_left _ b2⟩
  · by_cases e : k = nh
    · rw [e, h1]
      exact List.mem_append_right _ (List.mem_singleton.mpr rfl)
    · exact List.mem_append_left _ (a2 k (by omega))
  · rcases List.mem_append.mp hq with m | m
    · exact nm_or (Nat.le_refl _) (Nat.le_succ _) (Nat.le_refl _) (Nat.le_refl _) (a5 q m)
    · rw [List.mem_singleton.mp m]
      exact Or.inr (Or.inl ⟨rfl, Nat.lt_succ_self _, h1⟩)
theorem NmM.win1 {M : Mem} {p nl nh nw nb : Nat} {N : Nm} {x : Int64} (h : NmM M p N nl nh nw nb) (hx : nmI N x = false) (h1 : mJ M 85 0 (4 * p + nw) = x) : NmM M p (N ++ [(x, 203, nw)]) nl nh (nw + 1) nb := by
  obtain ⟨a1, a2, a3, a4, a5, a6⟩ := h
  refine ⟨fun k hk => ?_, fun k hk => List.mem_append_left _ (a2 k hk), fun k hk => ?_, fun k hk => List.mem_append_left _ (a4 k hk), fun q hq => ?_, nm_new hx a6⟩
  · obtain ⟨so', b1, b2⟩ := a1 k hk
    exact ⟨so', b1, List.mem_append_left _ b2⟩
  · by_cases e : k = nw
    · rw [e, h1]
      exact List.mem_append_right _ (List.mem_singleton.mpr rfl)
    · exact List.mem_append_left _ (a3 k (by omega))
  · rcases List.mem_append.mp hq with m | m
    · exact nm_or (Nat.le_refl _) (Nat.le_refl _) (Nat.le_succ _) (Nat.le_refl _) (a5 q m)
    · rw [List.mem_singleton.mp m]
      exact Or.inr (Or.inr (Or.inl ⟨rfl, Nat.lt_succ_self _, h1⟩))
theorem NmM.bar1 {M : Mem} {p nl nh nw nb : Nat} {N : Nm} {x : Int64} (h : NmM M p N nl nh nw nb) (hx : nmI N x = false) (h1 : mJ M 98 0 (8 * p + nb) = x) : NmM M p (N ++ [(x, 204, nb)]) nl nh nw (nb + 1) := by
  obtain ⟨a1, a2, a3, a4, a5, a6⟩ := h
  refine ⟨fun k hk => ?_, fun k hk => List.mem_append_left _ (a2 k hk), fun k hk => List.mem_append_left _ (a3 k hk), fun k hk => ?_, fun q hq => ?_, nm_new hx a6⟩
  · obtain ⟨so', b1, b2⟩ := a1 k hk
    exact ⟨so', b1, List.mem_append_left _ b2⟩
  · by_cases e : k = nb
    · rw [e, h1]
      exact List.mem_append_right _ (List.mem_singleton.mpr rfl)
    · exact List.mem_append_left _ (a4 k (by omega))
  · rcases List.mem_append.mp hq with m | m
    · exact nm_or (Nat.le_refl _) (Nat.le_refl _) (Nat.le_refl _) (Nat.le_succ _) (a5 q m)
    · rw [List.mem_singleton.mp m]
      exact Or.inr (Or.inr (Or.inr ⟨rfl, Nat.lt_succ_self _, h1⟩))
/-- a literal of page p, its codes below cc -/
def LitU (M : Mem) (p cc f : Nat) (l : Lt) : Prop := mI M 101 0 f = nI l.1 ∧ mI M 102 0 f = bI l.2.1 ∧ mI M 103 0 f = bI l.2.2.1 ∧ ∃ a, mI M 104 0 f = nI a ∧ mI M 105 0 f = nI (a + l.2.2.2.1.length) ∧ mI M 106 0 f = nI (a + l.2.2.2.1.length + l.2.2.2.2.length) ∧ (520 * p ≤ a ∧ a + l.2.2.2.1.length + l.2.2.2.2.length ≤ 520 * p + cc) ∧ SpM M a l.2.2.2.1 ∧ SpM M (a + l.2.2.2.1.length) l.2.2.2.2
def SpU (M : Mem) (p cc : Nat) : Nat → List Lt → Prop
  | _, [] => True
  | q, l :: ls => LitU M p cc q l ∧ SpU M p cc (q + 1) ls
theorem SpM.cg {M M' : Mem} {hi : Nat} (hU : ∀ s, s < hi → mI M' 107 0 s = mI M 107 0 s ∧ mI M' 108 0 s = mI M 108 0 s) : ∀ {cs : List Cd} {q : Nat}, q + cs.length ≤ hi → SpM M q cs → SpM M' q cs := by
  intro cs
  induction cs with
  | nil => intro q _ _; trivial
  | cons c cs ih =>
    intro q hq h
    have hq : q + (cs.length + 1) ≤ hi := hq
    have := hU q (by omega)
    exact ⟨⟨this.1.trans h.1.1, this.2.trans h.1.2⟩, ih (by omega) h.2⟩
theorem SpM.app {M : Mem} : ∀ {cs ds : List Cd} {q : Nat}, SpM M q cs → SpM M (q + cs.length) ds → SpM M q (cs ++ ds) := by
  intro cs
  induction cs with
  | nil => intro ds q _ h; exact h
  | cons c cs ih =>
    intro ds q h h2
    refine ⟨h.1, ih h.2 ?_⟩
    rw [show q + 1 + cs.length = q + (c :: cs).length by rw [List.length_cons]; omega]
    exact h2
theorem LitU.cg {M M' : Mem} {p cc cc' f : Nat} {l : Lt} (h : LitU M p cc f l) (hc : cc ≤ cc') (h1 : ∀ k, 101 ≤ k → k ≤ 106 → mI M' k 0 f = mI M k 0 f) (hU : ∀ s, s < 520 * p + cc → mI M' 107 0 s = mI M 107 0 s ∧ mI M' 108 0 s = mI M 108 0 s) : LitU M' p cc' f l := by
  obtain ⟨a1, a2, a3, a, b1, b2, b3, b4, b5, b6⟩ := h
  exact ⟨(h1 _ (by decide) (by decide)).trans a1, (h1 _ (by decide) (by decide)).trans a2, (h1 _ (by decide) (by decide)).trans a3, a, (h1 _ (by decide) (by decide)).trans b1, (h1 _ (by decide) (by decide)).trans b2, (h1 _ (by decide) (by decide)).trans b3, ⟨b4.1, by omega⟩, b5.cg hU (by omega), b6.cg hU (by omega)⟩
theorem SpU.cg {M M' : Mem} {p cc cc' lc : Nat} (hc : cc ≤ cc') (h1 : ∀ k s, 101 ≤ k → k ≤ 106 → s < lc → mI M' k 0 s = mI M k 0 s) (hU : ∀ s, s < 520 * p + cc → mI M' 107 0 s = mI M 107 0 s ∧ mI M' 108 0 s = mI M 108 0 s) : ∀ {ls : List Lt} {q : Nat}, q + ls.length ≤ lc → SpU M p cc q ls → SpU M' p cc' q ls := by
  intro ls
  induction ls with
  | nil => intro q _ _; trivial
  | cons l ls ih =>
    intro q hq h
    have hq : q + (ls.length + 1) ≤ lc := hq
    exact ⟨h.1.cg hc (fun k a b => h1 k q a b (by omega)) hU, ih (by omega) h.2⟩
theorem SpU.app {M : Mem} {p cc : Nat} : ∀ {cs ds : List Lt} {q : Nat}, SpU M p cc q cs → SpU M p cc (q + cs.length) ds → SpU M p cc q (cs ++ ds) := by
  intro cs
  induction cs with
  | nil => intro ds q _ h; exact h
  | cons c cs ih =>
    intro ds q h h2
    refine ⟨h.1, ih h.2 ?_⟩
    rw [show q + 1 + cs.length = q + (c :: cs).length by rw [List.length_cons]; omega]
    exact h2
/-- a bar of page p, its literals below lc, its codes below cc -/
def BrM (M : Mem) (p b : Nat) (L : List Lt) (lc cc : Nat) : Prop := ∃ f, mI M 99 0 (8 * p + b) = nI f ∧ mI M 100 0 (8 * p + b) = nI (f + L.length) ∧ (200 * p ≤ f ∧ f + L.length ≤ 200 * p + lc) ∧ SpU M p cc f L
theorem BrM.cg {M M' : Mem} {p b lc cc lc' cc' : Nat} {L : List Lt} (h : BrM M p b L lc cc) (hl : lc ≤ lc') (hc : cc ≤ cc') (h0 : ∀ k, 99 ≤ k → k ≤ 100 → mI M' k 0 (8 * p + b) = mI M k 0 (8 * p + b)) (h1 : ∀ k s, 101 ≤ k → k ≤ 106 → s < 200 * p + lc → mI M' k 0 s = mI M k 0 s) (hU : ∀ s, s < 520 * p + cc → mI M' 107 0 s = mI M 107 0 s ∧ mI M' 108 0 s = mI M 108 0 s) : BrM M' p b L lc' cc' := by
  obtain ⟨f, a, b, c, d⟩ := h
  exact ⟨f, (h0 _ (by decide) (by decide)).trans a, (h0 _ (by decide) (by decide)).trans b, ⟨c.1, by omega⟩, d.cg hc h1 hU c.2⟩
theorem LitU.M {M : Mem} {p cc f : Nat} {l : Lt} (h : LitU M p cc f l) (hp : p < 4) (hc : cc ≤ 520) : LitM M f l := by
  obtain ⟨a1, a2, a3, a, b1, b2, b3, b4, b5, b6⟩ := h
  exact ⟨a1, a2, a3, a, b1, b2, b3, by omega, b5, b6⟩
theorem SpU.L {M : Mem} {p cc : Nat} (hp : p < 4) (hc : cc ≤ 520) : ∀ {ls : List Lt} {q : Nat}, SpU M p cc q ls → SpL M q ls ∧ ∀ j, j < ls.length → ∃ a c, mI M 104 0 (q + j) = nI a ∧ 520 * p ≤ a ∧ mI M 106 0 (q + j) = nI c ∧ c ≤ 520 * p + 520 := by
  intro ls
  induction ls with
  | nil => intro q _; exact ⟨trivial, fun j hj => absurd hj (Nat.not_lt_zero _)⟩
  | cons l ls ih =>
    intro q h
    obtain ⟨i1, i2⟩ := ih h.2
    refine ⟨⟨h.1.M hp hc, i1⟩, fun j hj => ?_⟩
    cases j with
    | zero =>
      obtain ⟨_, _, _, a, b1, _, b3, b4, _⟩ := h.1
      exact ⟨a, _, b1, b4.1, b3, by omega⟩
    | succ j =>
      have := i2 j (Nat.lt_of_succ_lt_succ hj)
      rw [show q + 1 + j = q + (j + 1) by omega] at this
      exact this
theorem BrM.M {M : Mem} {p b lc cc : Nat} {L : List Lt} (h : BrM M p b L lc cc) (hp : p < 4) (hb : b < 8) (hl : lc ≤ 200) (hc : cc ≤ 520) : MdB M (8 * p + b) L := by
  obtain ⟨f, h1, h2, h3, h4⟩ := h
  obtain ⟨i1, i2⟩ := h4.L hp hc
  refine ⟨f, h1, h2, by omega, i1, ?_⟩
  unfold RgL
  rw [show (8 * p + b) / 8 = p by omega]
  exact ⟨by omega, i2⟩
/-- what the model has told between two tells -/
def CtM (M : Mem) (p : Nat) (C : Cn) (s : Ps) : Prop :=
  (mI M 12 0 20 = nI p ∧ mI M 12 0 12 = 0) ∧ (mI M 74 0 p = nI (xl C) ∧ mI M 80 0 p = nI (xh C) ∧ mI M 84 0 p = nI (xw C) ∧ mI M 97 0 p = nI (xb C)) ∧ (xl C ≤ 8 ∧ xh C ≤ 4 ∧ xw C ≤ 4 ∧ xb C ≤ 8) ∧ PgX pgf M p (xT C) ∧
  (s.2.2 = none → PgX nmf M p (xT C) ∧ NmM M p (xN C) (xl C) (xh C) (xw C) (xb C)) ∧
  ∃ lc cc, (3 * lc ≤ s.1 ∧ cc ≤ s.1) ∧ mI M 12 0 48 = nI (200 * p + lc) ∧ mI M 12 0 55 = nI (520 * p + cc) ∧ ∀ b, b < xb C → BOK (xL C b) ∧ BrM M p b (xL C b) lc cc
