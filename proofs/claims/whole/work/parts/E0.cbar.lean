/-! READ: the class's reader: a bar -/
theorem PsC.exx {M M' : Mem} {B : Nat → Nat} {n : Nat} {e : Except Fa Ps} (h : PsC M B n e) : PsC M B n e := h
theorem c_condition (Ω : Om) (M : Mem) (B : Nat → Nat) (n t : Nat) (e : Except Fa Ps) (K : Ka) (h : PsC M B n e) (hS : San4 M t)
    (hK : ∀ M', Un (wEx t) M M' → PsC M' B n (eb e fun s => eb (coS B n 501 true [] s.1) fun r => .ok (r.1, r.1 - 1, s.2.2)) → San4 M' t → (∀ s r xs, e = .ok s → coS B n 501 true [] s.1 = .ok r → StpC M t xs → xs.length ≤ s.1 → StpC M' t (xs ++ BrC r.2)) → K none M') :
    CallS Ω true m_Reader_condition [vR (some (4, 0)), vR (some (0, t))] M K := by
  refine call_go (hJL rfl) (Nat.le_of_ble_eq_true rfl) (go_wp ok_Reader_condition [2] 250 _ _ _ _ _ _ ?_)
  conv => whnf
  cases e with
  | error g =>
    refine go_wp ok_Reader_condition [] 250 _ _ _ _ _ _ ?_
    refine And.intro (fun z => absurd z (by decide)) (fun _ => ?_)
    conv => whnf
    rcases rd_fault h with ⟨fa, e1, e2⟩ | ⟨s, e1, _⟩
    · exact And.intro (fun _ => hK M Un.rfl (by rw [eb_x]; exact h) hS (fun s r xs z => by cases z)) (fun z => absurd z e2)
    · cases e1
  | ok s =>
    obtain ⟨a, tk, lt⟩ := s
    have htk : tk = a - 1 := h.2.1.2
    subst htk
    refine cd_loop (M := M) (a0 := a) (lt := lt) (tl := coS B n 501 true [] a) (fun g M' h1 h2 h3 h4 => ?_) (fun r M' h1 h2 h3 h4 h5 => ?_) 501 0 true [] a M none none rfl (Nat.zero_le _) (Nat.le_refl _) ?_ Un.rfl h hS (fun xs hx _ => ?_) rfl
    · refine hK M' h2 ?_ h4 (fun s r xs z z2 => ?_)
      · rw [eb_k]
        show PsC M' B n (eb (coS B n 501 true [] a) _)
        rw [h1, eb_x]
        exact h3
      · cases z
        rw [h1] at z2
        cases z2
    · refine hK M' h2 ?_ h4 (fun s r' xs z z2 hx hl => ?_)
      · rw [eb_k]
        show PsC M' B n (eb (coS B n 501 true [] a) _)
        rw [h1, eb_k]
        exact h3
      · cases z
        rw [h1] at z2
        cases z2
        exact h5 xs hx hl
    · rw [show BrC [] ++ orX true [] = [] from by rw [show orX true [] = [] from if_neg (fun q => q.2 rfl)]; rfl]
      show 0 + a ≤ a
      omega
    · rw [show BrC [] ++ orX true [] = [] from by rw [show orX true [] = [] from if_neg (fun q => q.2 rfl)]; rfl, List.append_nil]
      exact hx
def San6 (M : Mem) (t : Nat) : Prop := ∃ c, c ≤ 8 ∧ mI M 0 t 4 = nI c
def wCb (t k i s : Nat) : Bool := Nat.beq i t && (Nat.beq k 15 || (Nat.beq k 0 && Nat.beq s 4))
theorem c_closeBar (Ω : Om) (M : Mem) (t c q : Nat) (K : Ka) (hc : c < 8) (h4 : mI M 0 t 4 = nI c) (h2 : mI M 0 t 2 = nI q) (h : K none (sI (sI M 15 t c (nI q)) 0 t 4 (nI (c + 1)))) : CallS Ω true m_Bars_closeBar [vR (some (0, t))] M K := by
  refine call_go (hJL rfl) (Nat.le_of_ble_eq_true rfl) (go_wp ok_Bars_closeBar [] 250 _ _ _ _ _ _ ?_)
  conv => whnf
  rw [h4]
  refine And.intro (fun z => absurd z (nI_ge (b := 8) hc (by decide))) (fun _ => ?_)
  conv => whnf
  rw [h4, h2]
  refine And.intro (vp_in_nI (by omega) (by decide)) ?_
  rw [nI_clamp (by omega)]
  conv => whnf
  rw [mI_ne rfl, h4, nI_1]
  exact h
