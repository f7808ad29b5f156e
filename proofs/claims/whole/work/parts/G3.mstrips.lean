/-! READ: the model's reader: a wing's strips as its loop takes them -/
def stM (B : Nat → Nat) (n w : Nat) (N : Nm) : Nat → Nat → Ps → Tx → Except Fa (Ps × Tx)
  | 0, _, s, T => .ok (s, T)
  | f + 1, ns, s, T => if ns = 10 then .error (2, s.1) else eb (stpS B n w ns N s T) fun r => if tkK B n r.1.1 = 44 then eb (tkS B n 44 r.1) fun s => stM B n w N f (ns + 1) s r.2 else .ok r
theorem stM_L {B : Nat → Nat} {n w : Nat} {N : Nm} : ∀ f ns s T, f + 1 + ns = 11 → stM B n w N (f + 1) ns s T = if ns = 10 then .error (2, s.1) else eb (stpS B n w ns N s T) fun r => stpL B n w N f (ns + 1) r.1 r.2 := by
  intro f
  induction f with
  | zero =>
    intro ns s T h
    rw [stM, if_pos (by omega), if_pos (by omega)]
  | succ f ih =>
    intro ns s T h
    rw [stM]
    by_cases c : ns = 10
    · rw [if_pos c, if_pos c]
    · rw [if_neg c, if_neg c]
      refine eb_cg (fun r _ => ?_)
      rw [stpL]
      by_cases d : tkK B n r.1.1 = 44
      · rw [if_pos d, if_pos d]
        refine eb_cg (fun s' _ => ?_)
        rw [ih (ns + 1) s' r.2 (by omega)]
        by_cases e : ns + 1 = 10
        · rw [if_pos e, if_pos (by omega)]
        · rw [if_neg e, if_neg (by omega)]
      · rw [if_neg d, if_neg d]
theorem stM_0 {B : Nat → Nat} {n w : Nat} {N : Nm} {s : Ps} {T : Tx} : stM B n w N 11 0 s T = eb (stpS B n w 0 N s T) fun q => stpL B n w N 10 1 q.1 q.2 := by
  rw [stM_L 10 0 s T (by decide), if_neg (by decide)]
