/-! BARS: what they mean; the class's -/
abbrev Cd : Type := Nat × Int32
/-- a literal: its sort, not, or ahead, left, right -/
abbrev Lt : Type := Nat × Bool × Bool × List Cd × List Cd
def opS (k : Nat) (a b : Int32) : Int32 := if k = 2 then a + b else if k = 3 then a - b else if k = 4 then a * b else a / b
def stS (vs : Nat → Int32) (c : Cd) (S : List Int32) : Option (List Int32) :=
  if c.1 = 0 then some (c.2 :: S) else if c.1 = 1 then some (vs c.2.toNatClampNeg :: S) else match S with
    | b :: a :: S' => if c.1 = 5 ∧ b = 0 then none else some (opS c.1 a b :: S')
    | _ => none
def evc (vs : Nat → Int32) : List Cd → List Int32 → Option (List Int32)
  | [], S => some S
  | c :: cs, S => match stS vs c S with
    | some S' => evc vs cs S'
    | none => none
def wfc (m : Nat) : List Cd → Nat → Nat → Prop
  | [], d, e => d = e
  | c :: cs, d, e => (c.1 < 2 ∧ (c.1 = 1 → ∃ j, j < 8 ∧ c.2 = nI j) ∧ d + 1 ≤ m ∧ wfc m cs (d + 1) e) ∨ (2 ≤ c.1 ∧ c.1 ≤ 5 ∧ 2 ≤ d ∧ wfc m cs (d - 1) e)
theorem wfc_app {m : Nat} : ∀ {cs ds : List Cd} {d e f : Nat}, wfc m cs d e → wfc m ds e f → wfc m (cs ++ ds) d f := by
  intro cs
  induction cs with
  | nil => intro ds d e f h1 h2; cases h1; exact h2
  | cons c cs ih =>
    intro ds d e f h1 h2
    rcases h1 with ⟨a, b, c', h⟩ | ⟨a, b, c', h⟩
    · exact Or.inl ⟨a, b, c', ih h h2⟩
    · exact Or.inr ⟨a, b, c', ih h h2⟩
theorem wfc_up {m : Nat} : ∀ {cs : List Cd} {d e : Nat}, wfc m cs d e → wfc (m + 1) cs (d + 1) (e + 1) := by
  intro cs
  induction cs with
  | nil => intro d e h; cases h; rfl
  | cons c cs ih =>
    intro d e h
    rcases h with ⟨a, b, c', h⟩ | ⟨a, b, c', h⟩
    · exact Or.inl ⟨a, b, by omega, ih h⟩
    · refine Or.inr ⟨a, b, by omega, ?_⟩
      have := ih h
      rw [show d - 1 + 1 = d + 1 - 1 by omega] at this
      exact this
theorem wfc_mono {m m' : Nat} (hm : m ≤ m') : ∀ {cs : List Cd} {d e : Nat}, wfc m cs d e → wfc m' cs d e := by
  intro cs
  induction cs with
  | nil => intro d e h; exact h
  | cons c cs ih =>
    intro d e h
    rcases h with ⟨a, b, c', h⟩ | ⟨a, b, c', h⟩
    · exact Or.inl ⟨a, b, by omega, ih h⟩
    · exact Or.inr ⟨a, b, c', ih h⟩
theorem evc_app {vs : Nat → Int32} : ∀ {cs ds : List Cd} {S : List Int32}, evc vs (cs ++ ds) S = (match evc vs cs S with | some S' => evc vs ds S' | none => none) := by
  intro cs
  induction cs with
  | nil => intro ds S; rfl
  | cons c cs ih =>
    intro ds S
    show (match stS vs c S with | some S' => evc vs (cs ++ ds) S' | none => none) = (match (match stS vs c S with | some S' => evc vs cs S' | none => none) with | some S' => evc vs ds S' | none => none)
    cases stS vs c S with
    | none => rfl
    | some S' => exact ih
theorem evc_base {vs : Nat → Int32} {m : Nat} (B : List Int32) : ∀ {cs : List Cd} {d e : Nat} {S : List Int32}, wfc m cs d e → S.length = d → evc vs cs (S ++ B) = (match evc vs cs S with | some S' => some (S' ++ B) | none => none) ∧ ∀ S', evc vs cs S = some S' → S'.length = e := by
  intro cs
  induction cs with
  | nil => intro d e S h hS; cases h; exact ⟨rfl, fun S' q => by cases q; exact hS⟩
  | cons c cs ih =>
    intro d e S h hS
    rcases h with ⟨a, b, c', h⟩ | ⟨a, b, c', h⟩
    · by_cases c0 : c.1 = 0
      · have e1 : ∀ S, stS vs c S = some (c.2 :: S) := fun S => by unfold stS; exact if_pos c0
        rw [evc, evc, e1, e1]
        exact ih (S := c.2 :: S) h (by simp [hS])
      · have c1 : c.1 = 1 := by omega
        have e1 : ∀ S, stS vs c S = some (vs c.2.toNatClampNeg :: S) := fun S => by unfold stS; rw [if_neg c0, if_pos c1]
        rw [evc, evc, e1, e1]
        exact ih (S := vs c.2.toNatClampNeg :: S) h (by simp [hS])
    · have c0 : ¬ c.1 = 0 := by omega
      have c1 : ¬ c.1 = 1 := by omega
      match S, hS with
      | [], hS => simp at hS; omega
      | [x], hS => simp at hS; omega
      | y :: x :: S', hS =>
        by_cases z : c.1 = 5 ∧ y = 0
        · have e1 : ∀ S, stS vs c (y :: x :: S) = none := fun S => by unfold stS; rw [if_neg c0, if_neg c1]; exact if_pos z
          have e2 : evc vs (c :: cs) (y :: x :: S' ++ B) = none := by
            show (match stS vs c (y :: x :: (S' ++ B)) with | some S' => evc vs cs S' | none => none) = none
            rw [e1]
          have e3 : evc vs (c :: cs) (y :: x :: S') = none := by rw [evc, e1]
          rw [e2, e3]
          exact ⟨rfl, fun S' q => by cases q⟩
        · have e1 : ∀ S, stS vs c (y :: x :: S) = some (opS c.1 x y :: S) := fun S => by unfold stS; rw [if_neg c0, if_neg c1]; exact if_neg z
          have e2 : evc vs (c :: cs) (y :: x :: S' ++ B) = evc vs cs (opS c.1 x y :: S' ++ B) := by
            show (match stS vs c (y :: x :: (S' ++ B)) with | some S' => evc vs cs S' | none => none) = _
            rw [e1]; rfl
          have e3 : evc vs (c :: cs) (y :: x :: S') = evc vs cs (opS c.1 x y :: S') := by rw [evc, e1]
          rw [e2, e3]
          exact ih h (by simp at hS ⊢; omega)
/-- the value of a term; it is broken -/
def tvS (vs : Nat → Int32) (cs : List Cd) : Int32 := match evc vs cs [] with
  | some (a :: _) => a
  | _ => 0
def tbS (vs : Nat → Int32) (cs : List Cd) : Bool := (evc vs cs []).isNone
def cmS (k : Nat) (a b : Int32) : Bool := if k = 0 then decide (a = b) else if k = 1 then !(decide (a = b)) else if k = 2 then decide (a < b) else decide (a ≤ b)
def ltS (vs : Nat → Int32) (l : Lt) : Bool := (cmS l.1 (tvS vs l.2.2.2.1) (tvS vs l.2.2.2.2) && !(tbS vs l.2.2.2.1 || tbS vs l.2.2.2.2)) != l.2.1
def hoS (vs : Nat → Int32) : List Lt → Bool → Bool
  | [], all => all
  | l :: ls, all => if l.2.2.1 = true ∧ all = true then true else hoS vs ls ((l.2.2.1 || all) && ltS vs l)
def LtOK (l : Lt) : Prop := l.1 ≤ 3 ∧ wfc 17 l.2.2.2.1 0 1 ∧ wfc 17 l.2.2.2.2 0 1
theorem tv_of {vs : Nat → Int32} {cs : List Cd} (h : wfc 17 cs 0 1) : (tbS vs cs = true ∧ evc vs cs [] = none) ∨ (tbS vs cs = false ∧ evc vs cs [] = some [tvS vs cs]) := by
  have h2 := (evc_base (vs := vs) [] (S := []) h rfl).2
  unfold tbS tvS
  cases e : evc vs cs [] with
  | none => exact Or.inl ⟨rfl, rfl⟩
  | some S =>
    have := h2 S e
    match S, this with
    | [a], _ => exact Or.inr ⟨rfl, rfl⟩
/-- both terms, one behind the other -/
theorem ev_two {vs : Nat → Int32} {cs ds : List Cd} (h1 : wfc 17 cs 0 1) (h2 : wfc 17 ds 0 1) : evc vs (cs ++ ds) [] = if tbS vs cs = true ∨ tbS vs ds = true then none else some [tvS vs ds, tvS vs cs] := by
  rw [evc_app]
  rcases tv_of (vs := vs) h1 with ⟨a, b⟩ | ⟨a, b⟩
  · rw [b, if_pos (Or.inl a)]
  · rw [b]
    show evc vs ds ([] ++ [tvS vs cs]) = _
    rw [(evc_base [tvS vs cs] h2 rfl).1]
    rcases tv_of (vs := vs) h2 with ⟨c, d⟩ | ⟨c, d⟩
    · rw [d, if_pos (Or.inr c)]
    · rw [d, if_neg (by rw [a, c]; simp)]; rfl
/-- the class's word for a step -/
def wdC (c : Cd) : Int32 × Int32 := if c.1 = 0 then (3, c.2) else if c.1 = 1 then (nI (214 + c.2.toNatClampNeg), c.2) else if c.1 = 2 then (43, 0) else if c.1 = 3 then (45, 0) else if c.1 = 4 then (42, 0) else (47, 0)
def bdC (l : Lt) : List (Int32 × Int32) := (l.2.2.2.1 ++ l.2.2.2.2).map wdC ++ [(nI (4 + l.1), bI l.2.1)]
def orC (l : Lt) : List (Int32 × Int32) := if l.2.2.1 = true then [(211, 0)] else []
def rwC : List Lt → List (Int32 × Int32)
  | [] => []
  | l :: ls => orC l ++ (bdC l ++ rwC ls)
def SpC (M : Mem) (t : Nat) : Nat → List (Int32 × Int32) → Prop
  | _, [] => True
  | q, x :: xs => (mI M 13 t q = x.1 ∧ mI M 14 t q = x.2) ∧ SpC M t (q + 1) xs
theorem SpC.app {M : Mem} {t : Nat} : ∀ {xs ys : List (Int32 × Int32)} {q : Nat}, SpC M t q (xs ++ ys) ↔ SpC M t q xs ∧ SpC M t (q + xs.length) ys := by
  intro xs
  induction xs with
  | nil => intro ys q; simp [SpC]
  | cons x xs ih =>
    intro ys q
    show _ ∧ SpC M t (q + 1) (xs ++ ys) ↔ (_ ∧ SpC M t (q + 1) xs) ∧ _
    rw [ih, show q + (x :: xs).length = q + 1 + xs.length by simp; omega]
    constructor
    · rintro ⟨a, b, c⟩; exact ⟨⟨a, b⟩, c⟩
    · rintro ⟨⟨a, b⟩, c⟩; exact ⟨a, b, c⟩
theorem SpC.un {w : Nat → Nat → Nat → Bool} {M M' : Mem} {t : Nat} (hU : Un w M M') (h13 : ∀ i s, w 13 i s = false) (h14 : ∀ i s, w 14 i s = false) : ∀ {xs : List (Int32 × Int32)} {q : Nat}, SpC M t q xs → SpC M' t q xs := by
  intro xs
  induction xs with
  | nil => intro q _; trivial
  | cons x xs ih =>
    intro q h
    exact ⟨⟨(hU.I (h13 _ _)).trans h.1.1, (hU.I (h14 _ _)).trans h.1.2⟩, ih h.2⟩
def wBr (t k i s : Nat) : Bool := (Nat.beq k 17 || (Nat.beq k 0 && (Nat.beq s 7 || Nat.beq s 8))) && Nat.beq i t
/-- the class's stack -/
def StC (M : Mem) (t : Nat) (h : Nat) (o : Option (List Int32)) : Prop := mI M 0 t 7 = nI h ∧ mI M 0 t 8 = bI o.isNone ∧ ∀ S, o = some S → S.length = h ∧ ∀ k, k < h → mI M 17 t (h - 1 - k) = S.getD k 0
theorem wBr_17 {t s : Nat} : wBr t 17 t s = true := by simp [wBr, nb_d]
theorem wBr_7 {t : Nat} : wBr t 0 t 7 = true := by simp [wBr, nb_d]
theorem wBr_8 {t : Nat} : wBr t 0 t 8 = true := by simp [wBr, nb_d]
theorem c_push (Ω : Om) (M : Mem) (t h : Nat) (x : Int32) (K : Ka) (hh : h < 32) (h7 : mI M 0 t 7 = nI h) (hK : K none (sI (sI M 17 t h x) 0 t 7 (nI (h + 1)))) : CallS Ω true m_Bars_push [vR (some (0, t)), vI x] M K := by
  refine call_go (hJL rfl) (Nat.le_of_ble_eq_true rfl) (go_wp ok_Bars_push [] 250 _ _ _ _ _ _ ?_)
  refine And.intro (fun a => ?_) (fun _ => ?_)
  · rw [h7] at a
    exact absurd a (nI_ge (b := 32) hh (by decide))
  conv => whnf
  rw [h7]
  refine And.intro (vp_in_nI (by omega) (by decide)) ?_
  rw [nI_clamp (by omega)]
  conv => whnf
  rw [show mI (sI M 17 t h x) 0 t 7 = nI h from h7, nI_1]
  exact hK
theorem c_pop (Ω : Om) (M : Mem) (t h : Nat) (K : Ka) (hh : h < 32) (h7 : mI M 0 t 7 = nI (h + 1)) (hK : K (some (vI (mI M 17 t h))) (sI M 0 t 7 (nI h))) : CallS Ω true m_Bars_pop [vR (some (0, t))] M K := by
  refine call_go (hJL rfl) (Nat.le_of_ble_eq_true rfl) (go_wp ok_Bars_pop [] 250 _ _ _ _ _ _ ?_)
  refine And.intro (fun a => ?_) (fun _ => And.intro (fun _ => ?_) (fun a => ?_))
  · rw [h7] at a
    exact absurd a (nI_nlt (b := 1) (by omega) (by omega))
  · conv => whnf
    rw [h7, nI_pred, mI_sI, if_pos ⟨rfl, rfl, rfl⟩]
    refine And.intro (vp_in_nI (by omega) (by decide)) ?_
    rw [nI_clamp (by omega)]
    exact hK
  · rw [h7] at a
    exact absurd (nI_le (b := 32) (by omega) (by decide)) a
