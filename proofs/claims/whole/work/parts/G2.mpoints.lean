/-! READ: the model's reader: a law's points as its loop takes them -/
def ptM (B : Nat → Nat) (n k : Nat) : Nat → Nat → Ps → Tx → Except Fa (Ps × Tx)
  | 0, _, s, T => .ok (s, T)
  | f + 1, np, s, T => if np = 8 then .error (2, s.1) else eb (ptS B n k np s T) fun r => if tkK B n r.1.1 = 44 ∨ np + 1 < 2 then eb (tkS B n 44 r.1) fun s => ptM B n k f (np + 1) s r.2 else .ok r
theorem ptM_L {B : Nat → Nat} {n k : Nat} : ∀ f np s T, f + 1 + np = 9 → 1 ≤ np → ptM B n k (f + 1) np s T = if np = 8 then .error (2, s.1) else eb (ptS B n k np s T) fun r => ptL B n k f (np + 1) r.1 r.2 := by
  intro f
  induction f with
  | zero =>
    intro np s T h h1
    rw [ptM, if_pos (by omega), if_pos (by omega)]
  | succ f ih =>
    intro np s T h h1
    rw [ptM]
    by_cases c : np = 8
    · rw [if_pos c, if_pos c]
    · rw [if_neg c, if_neg c]
      refine eb_cg (fun r _ => ?_)
      rw [ptL]
      by_cases d : tkK B n r.1.1 = 44
      · rw [if_pos (Or.inl d), if_pos d]
        refine eb_cg (fun s' _ => ?_)
        rw [ih (np + 1) s' r.2 (by omega) (by omega)]
        by_cases e : np + 1 = 8
        · rw [if_pos e, if_pos (by omega)]
        · rw [if_neg e, if_neg (by omega)]
      · rw [if_neg (fun q => by
          rcases q with q | q
          · exact d q
          · omega), if_neg d]
theorem ptM_0 {B : Nat → Nat} {n k : Nat} {s : Ps} {T : Tx} : ptM B n k 9 0 s T = eb (ptS B n k 0 s T) fun q => eb (tkS B n 44 q.1) fun s => eb (ptS B n k 1 s q.2) fun q => ptL B n k 7 2 q.1 q.2 := by
  rw [ptM, if_neg (by decide)]
  refine eb_cg (fun r _ => ?_)
  rw [if_pos (Or.inr (by decide))]
  refine eb_cg (fun s' _ => ?_)
  rw [ptM_L 7 1 s' r.2 (by decide) (by decide), if_neg (by decide)]
