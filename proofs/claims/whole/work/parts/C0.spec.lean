/-! READ: what a text is, as a pure reading of its tokens -/
abbrev Fa : Type := Nat × Nat
/-- where the reading is: the token that comes, the last one taken, the first of the faults that count late -/
abbrev Ps : Type := Nat × Nat × Option (Nat × Nat)
def eb {α β : Type} (x : Except Fa α) (f : α → Except Fa β) : Except Fa β := match x with
  | .error e => .error e
  | .ok a => f a
def tkS (B : Nat → Nat) (n due : Nat) (s : Ps) : Except Fa Ps := if tkK B n s.1 = due then (if 500 ≤ s.1 then .error (2, s.1) else .ok (s.1 + 1, s.1, s.2.2)) else .error (1, s.1)
def blS (k : Nat) (b : Bool) (s : Ps) : Ps := if b = true then (s.1, s.2.1, some (s.2.2.getD (k, s.2.1))) else s
def nuS (B : Nat → Nat) (n : Nat) (lo hi : Int32) (s : Ps) : Except Fa (Ps × Int32) := eb (tkS B n 3 s) fun s => .ok (blS 5 (decide ((tkV B n s.2.1).toInt32 < lo) || decide (hi < (tkV B n s.2.1).toInt32)) s, (tkV B n s.2.1).toInt32)
def sdS (B : Nat → Nat) (n : Nat) (lim : Int32) (s : Ps) : Except Fa (Ps × Int32) := if tkK B n s.1 = 45 then eb (tkS B n 45 s) fun s => eb (nuS B n 0 lim s) fun r => .ok (r.1, -r.2) else nuS B n 0 lim s
abbrev Nm : Type := List (Int64 × Nat × Nat)
def nmI (N : Nm) (x : Int64) : Bool := N.any fun q => decide (q.1 = x)
def nmS (B : Nat → Nat) (n sort num : Nat) (s : Ps) (N : Nm) : Except Fa (Ps × Nm) := eb (tkS B n 2 s) fun s => .ok (blS 3 (nmI N (tkV B n s.2.1)) s, if nmI N (tkV B n s.2.1) = true then N else N ++ [(tkV B n s.2.1, sort, num)])
/-- the number of the first of that name, if it is of that sort -/
def nmF (N : Nm) (x : Int64) (sort : Nat) : Option Nat := match N.find? fun q => decide (q.1 = x) with
  | none => none
  | some q => if q.2.1 = sort then some q.2.2 else none
def knS (B : Nat → Nat) (n sort : Nat) (s : Ps) (N : Nm) : Except Fa (Ps × Option Nat) := eb (tkS B n 2 s) fun s => .ok (blS 4 (nmF N (tkV B n s.2.1) sort).isNone s, nmF N (tkV B n s.2.1) sort)
def upT (T : Tx) (f a : Nat) (x : Int32) : Tx := fun f' a' => if f' = f ∧ a' = a then x else T f' a'
/-- a point of law k, the np-th -/
def ptS (B : Nat → Nat) (n k np : Nat) (s : Ps) (T : Tx) : Except Fa (Ps × Tx) := eb (sdS B n 90 s) fun r1 => eb (sdS B n 999 (blS 5 (decide (0 < np) && decide (r1.2 ≤ T 78 (8 * k + (np - 1)))) r1.1)) fun r2 => .ok (r2.1, upT (upT (upT T 78 (8 * k + np) r1.2) 79 (8 * k + np) r2.2) 77 k (nI (np + 1)))
def ptL (B : Nat → Nat) (n k : Nat) : Nat → Nat → Ps → Tx → Except Fa (Ps × Tx)
  | 0, _, s, T => .ok (s, T)
  | f + 1, np, s, T => if tkK B n s.1 = 44 then eb (tkS B n 44 s) fun s => if 8 ≤ np then .error (2, s.1) else eb (ptS B n k np s T) fun r => ptL B n k f (np + 1) r.1 r.2 else .ok (s, T)
/-- what is told: the page, names, how many laws, hinges, wings, bars; the bars -/
abbrev Cn : Type := Tx × Nm × (Nat × Nat × Nat × Nat) × (Nat → List Lt)
def xT (C : Cn) : Tx := C.1
def xN (C : Cn) : Nm := C.2.1
def xl (C : Cn) : Nat := C.2.2.1.1
def xh (C : Cn) : Nat := C.2.2.1.2.1
def xw (C : Cn) : Nat := C.2.2.1.2.2.1
def xb (C : Cn) : Nat := C.2.2.1.2.2.2
def xL (C : Cn) : Nat → List Lt := C.2.2.2
def lwS (B : Nat → Nat) (n sort : Nat) (s : Ps) (C : Cn) : Except Fa (Ps × Cn) :=
  if 8 ≤ xl C then .error (2, s.1) else
  eb (tkS B n sort s) fun s => eb (nmS B n sort (xl C) s (xN C)) fun r => eb (tkS B n 58 r.1) fun s => eb (ptS B n (xl C) 0 s (upT (xT C) 77 (xl C) 0)) fun q => eb (tkS B n 44 q.1) fun s => eb (ptS B n (xl C) 1 s q.2) fun q => eb (ptL B n (xl C) 7 2 q.1 q.2) fun q => eb (tkS B n 59 q.1) fun s =>
    .ok (s, q.2, r.2, (xl C + 1, xh C, xw C, xb C), xL C)
def hiS (B : Nat → Nat) (n : Nat) (s : Ps) (C : Cn) : Except Fa (Ps × Cn) :=
  if 4 ≤ xh C then .error (2, s.1) else
  eb (tkS B n 202 s) fun s => eb (nmS B n 202 (xh C) s (xN C)) fun r => eb (nuS B n 1 30 r.1) fun q => eb (tkS B n 59 q.1) fun s =>
    .ok (s, upT (xT C) 82 (xh C) q.2, r.2, (xl C, xh C + 1, xw C, xb C), xL C)
/-- a strip of wing w, the ns-th -/
def stpS (B : Nat → Nat) (n w ns : Nat) (N : Nm) (s : Ps) (T : Tx) : Except Fa (Ps × Tx) :=
  eb (nuS B n 1 9 s) fun r1 => eb (knS B n 200 r1.1 N) fun r2 => eb (knS B n 201 r2.1 N) fun r3 => eb (sdS B n 30 r3.1) fun r4 =>
  eb (if tkK B n r4.1.1 = 210 then eb (tkS B n 210 r4.1) fun s => knS B n 202 s N else .ok (r4.1, none)) fun r5 =>
    .ok (r5.1, upT (upT (upT (upT (upT (upT T 92 (10 * w + ns) r1.2) 93 (10 * w + ns) (nI (r2.2.getD 0))) 94 (10 * w + ns) (nI (r3.2.getD 0))) 95 (10 * w + ns) r4.2) 96 (10 * w + ns) (hI r5.2)) 86 w (nI (ns + 1)))
def stpL (B : Nat → Nat) (n w : Nat) (N : Nm) : Nat → Nat → Ps → Tx → Except Fa (Ps × Tx)
  | 0, _, s, T => .ok (s, T)
  | f + 1, ns, s, T => if tkK B n s.1 = 44 then eb (tkS B n 44 s) fun s => if 10 ≤ ns then .error (2, s.1) else eb (stpS B n w ns N s T) fun r => stpL B n w N f (ns + 1) r.1 r.2 else .ok (s, T)
def isMk (k : Nat) : Bool := Nat.ble 205 k && Nat.ble k 208
/-- the four of a mass -/
def msS (B : Nat → Nat) (n w : Nat) : Nat → Nat → Ps → Tx → Except Fa (Ps × Tx)
  | 0, _, s, T => .ok (s, T)
  | f + 1, i, s, T => eb (nuS B n 1 2000 s) fun r => msS B n w f (i + 1) r.1 (upT T 91 (4 * w + i) r.2)
def mkS (B : Nat → Nat) (n w sort : Nat) (s : Ps) (T : Tx) : Except Fa (Ps × Tx) :=
  eb (tkS B n sort s) fun s => if sort = 205 then eb (nuS B n 50 2000 s) fun r => .ok (r.1, upT T 87 w r.2) else if sort = 206 then eb (nuS B n 0 2000 s) fun r => .ok (r.1, upT T 88 w r.2) else if sort = 207 then eb (sdS B n 9 s) fun r => .ok (r.1, upT T 89 w r.2) else eb (msS B n w 4 0 s T) fun r => .ok (r.1, upT r.2 90 w 1)
def mkL (B : Nat → Nat) (n w : Nat) : Nat → Ps → Tx → Except Fa (Ps × Tx)
  | 0, s, T => .ok (s, T)
  | f + 1, s, T => if isMk (tkK B n s.1) = true then eb (mkS B n w (tkK B n s.1) s T) fun r => mkL B n w f r.1 r.2 else .ok (s, T)
def deT (T : Tx) (w : Nat) : Tx := upT (upT (upT (upT T 87 w 200) 88 w 0) 89 w 0) 90 w 0
def wiS (B : Nat → Nat) (n : Nat) (s : Ps) (C : Cn) : Except Fa (Ps × Cn) :=
  if 4 ≤ xw C then .error (2, s.1) else
  eb (tkS B n 203 s) fun s => eb (nmS B n 203 (xw C) s (xN C)) fun r => eb (tkS B n 58 r.1) fun s => eb (stpS B n (xw C) 0 r.2 s (upT (xT C) 86 (xw C) 0)) fun q => eb (stpL B n (xw C) r.2 10 1 q.1 q.2) fun q => eb (mkL B n (xw C) 501 q.1 (deT q.2 (xw C))) fun q => eb (tkS B n 59 q.1) fun s =>
    .ok (s, q.2, r.2, (xl C, xh C, xw C + 1, xb C), xL C)
/-- how strongly a sign binds -/
def rk (k : Nat) : Nat := if k = 42 ∨ k = 47 then 2 else if k = 43 ∨ k = 45 then 1 else 0
def opc (k : Nat) : Nat := if k = 43 then 2 else if k = 45 then 3 else if k = 42 then 4 else 5
/-- the signs that come out, and those that wait on -/
def rlC (r : Nat) : List Nat → List Cd
  | [] => []
  | p :: P => if r ≤ rk p then (opc p, 0) :: rlC r P else []
def rlP (r : Nat) : List Nat → List Nat
  | [] => []
  | p :: P => if r ≤ rk p then rlP r P else p :: P
/-- an expression from token a on: what is open, a unit is due, what waits, what came out -/
def exS (B : Nat → Nat) (n : Nat) : Nat → Nat → Bool → List Nat → List Cd → Nat → Except Fa (Nat × List Cd)
  | 0, _, _, _, _, a => .error (2, a)
  | f + 1, o, due, P, C, a =>
    if due = true then (if tkK B n a = 40 then (if o = 6 then .error (2, a) else if 500 ≤ a then .error (2, a) else exS B n f (o + 1) true (40 :: P) C (a + 1))
      else if 214 ≤ tkK B n a ∧ tkK B n a ≤ 221 then (if 500 ≤ a then .error (2, a) else exS B n f o false P (C ++ [(1, nI (tkK B n a - 214))]) (a + 1))
      else if tkK B n a = 3 then (if 500 ≤ a then .error (2, a) else exS B n f o false P (C ++ [(0, (tkV B n a).toInt32)]) (a + 1)) else .error (1, a))
    else if 0 < rk (tkK B n a) then (if 500 ≤ a then .error (2, a) else exS B n f o true (tkK B n a :: rlP (rk (tkK B n a)) P) (C ++ rlC (rk (tkK B n a)) P) (a + 1))
    else if 0 < o then (if tkK B n a = 41 then (if 500 ≤ a then .error (2, a) else exS B n f (o - 1) false (rlP 1 P).tail (C ++ rlC 1 P) (a + 1)) else .error (1, a))
    else .ok (a, C ++ rlC 1 P)
def ex (B : Nat → Nat) (n a : Nat) : Except Fa (Nat × List Cd) := exS B n (501 - a) 0 true [] [] a
/-- the nots ahead of a literal -/
def ntS (B : Nat → Nat) (n : Nat) : Nat → Bool → Nat → Except Fa (Nat × Bool)
  | 0, _, a => .error (2, a)
  | f + 1, b, a => if tkK B n a = 213 then (if 500 ≤ a then .error (2, a) else ntS B n f (!b) (a + 1)) else .ok (a, b)
/-- a literal -/
def liT (B : Nat → Nat) (n : Nat) (or_ : Bool) (a : Nat) : Except Fa (Nat × Lt) :=
  eb (ntS B n (501 - a) false a) fun p => eb (ex B n p.1) fun l => if 4 ≤ tkK B n l.1 ∧ tkK B n l.1 ≤ 7 then (if 500 ≤ l.1 then .error (2, l.1) else eb (ex B n (l.1 + 1)) fun r => .ok (r.1, (tkK B n l.1 - 4, p.2, or_, l.2, r.2))) else .error (1, l.1)
def coS (B : Nat → Nat) (n : Nat) : Nat → Bool → List Lt → Nat → Except Fa (Nat × List Lt)
  | 0, _, _, a => .error (2, a)
  | f + 1, or_, L, a => eb (liT B n or_ a) fun r => if tkK B n r.1 = 211 then (if 500 ≤ r.1 then .error (2, r.1) else coS B n f true (L ++ [r.2]) (r.1 + 1)) else if tkK B n r.1 = 212 then (if 500 ≤ r.1 then .error (2, r.1) else coS B n f false (L ++ [r.2]) (r.1 + 1)) else .ok (r.1, L ++ [r.2])
def baS (B : Nat → Nat) (n : Nat) (s : Ps) (C : Cn) : Except Fa (Ps × Cn) :=
  if 8 ≤ xb C then .error (2, s.1) else
  eb (tkS B n 204 s) fun s => eb (nmS B n 204 (xb C) s (xN C)) fun r => eb (tkS B n 209 r.1) fun s => eb (coS B n 501 true [] s.1) fun q => eb (tkS B n 59 (q.1, q.1 - 1, s.2.2)) fun s2 =>
    .ok (s2, xT C, r.2, (xl C, xh C, xw C, xb C + 1), fun b => if b = xb C then q.2 else xL C b)
def teS (B : Nat → Nat) (n : Nat) (s : Ps) (C : Cn) : Except Fa (Ps × Cn) :=
  if tkK B n s.1 = 200 ∨ tkK B n s.1 = 201 then lwS B n (tkK B n s.1) s C else if tkK B n s.1 = 202 then hiS B n s C else if tkK B n s.1 = 203 then wiS B n s C else if tkK B n s.1 = 204 then baS B n s C else .error (1, s.1)
def paS (B : Nat → Nat) (n : Nat) : Nat → Ps → Cn → Except Fa (Ps × Cn)
  | 0, s, C => .ok (s, C)
  | f + 1, s, C => if tkK B n s.1 = 0 then .ok (s, C) else eb (teS B n s C) fun r => paS B n f r.1 r.2
theorem eb_ok {α β : Type} {x : Except Fa α} {f : α → Except Fa β} {b : β} (h : eb x f = .ok b) : ∃ a, x = .ok a ∧ f a = .ok b := by
  cases x with
  | error e => cases h
  | ok a => exact ⟨a, rfl, h⟩
theorem tkS_ok {B : Nat → Nat} {n due : Nat} {s s' : Ps} (h : tkS B n due s = .ok s') : tkK B n s.1 = due ∧ s.1 < 500 ∧ s' = (s.1 + 1, s.1, s.2.2) := by
  unfold tkS at h
  split at h
  next c =>
    split at h
    · cases h
    · cases h; exact ⟨c, by omega, rfl⟩
  next => cases h
theorem blS_1 (k : Nat) (b : Bool) (s : Ps) : (blS k b s).1 = s.1 ∧ (blS k b s).2.1 = s.2.1 := by
  unfold blS; split <;> exact ⟨rfl, rfl⟩
theorem nuS_at {B : Nat → Nat} {n : Nat} {lo hi : Int32} {s : Ps} {r : Ps × Int32} (h : nuS B n lo hi s = .ok r) : r.1.1 = s.1 + 1 := by
  obtain ⟨a, h1, h2⟩ := eb_ok h
  obtain ⟨-, -, rfl⟩ := tkS_ok h1
  cases h2
  exact (blS_1 _ _ _).1
theorem sdS_at {B : Nat → Nat} {n : Nat} {lim : Int32} {s : Ps} {r : Ps × Int32} (h : sdS B n lim s = .ok r) : s.1 < r.1.1 := by
  unfold sdS at h
  split at h
  · obtain ⟨a, h1, h2⟩ := eb_ok h
    obtain ⟨-, -, rfl⟩ := tkS_ok h1
    obtain ⟨b, h3, h4⟩ := eb_ok h2
    have := nuS_at h3
    cases h4
    show s.1 < b.1.1
    rw [this]
    show s.1 < s.1 + 1 + 1
    omega
  · have := nuS_at h; omega
theorem nmS_at {B : Nat → Nat} {n so nu : Nat} {s : Ps} {N : Nm} {r : Ps × Nm} (h : nmS B n so nu s N = .ok r) : r.1.1 = s.1 + 1 := by
  obtain ⟨a, h1, h2⟩ := eb_ok h
  obtain ⟨-, -, rfl⟩ := tkS_ok h1
  cases h2
  exact (blS_1 _ _ _).1
theorem knS_at {B : Nat → Nat} {n so : Nat} {s : Ps} {N : Nm} {r : Ps × Option Nat} (h : knS B n so s N = .ok r) : r.1.1 = s.1 + 1 := by
  obtain ⟨a, h1, h2⟩ := eb_ok h
  obtain ⟨-, -, rfl⟩ := tkS_ok h1
  cases h2
  exact (blS_1 _ _ _).1
