/-! NEXT: what it is, and the class's -/
def NW (M : Mem) (t : Nat) : Nat := (pg M t 84 0).toNatClampNeg
def TxF (M : Mem) (nt : Nat) (T : Nat → Tx) (nwf : Nat → Nat) : Prop := ∀ k, k < nt → ∃ nl nh nb Ls, TxC M k nl nh (nwf k) nb Ls ∧ pg M k = T k
theorem TxF.un {M M' : Mem} {nt : Nat} {T : Nat → Tx} {nwf : Nat → Nat} (h : TxF M nt T nwf) (hU : Un wX M M') : TxF M' nt T nwf := fun k hk => by
  obtain ⟨nl, nh, nb, Ls, h1, h2⟩ := h k hk
  exact ⟨nl, nh, nb, Ls, h1.un hU wX_tx, (pg_av hU wX_tx k).trans h2⟩
theorem TxF.of {M : Mem} {nt : Nat} (h : Txt M nt) : TxF M nt (fun k => pg M k) (NW M) := fun k hk => by
  obtain ⟨⟨nl, nh, nw, nb, Ls, hX⟩, -⟩ := h k hk
  have e : NW M k = nw := by unfold NW; rw [hX.1.2.2.1, nI_clamp (by have := hX.1.2.2.2.2.1.2.2.1; omega)]
  rw [e]
  exact ⟨nl, nh, nb, Ls, hX, rfl⟩
/-- the lift of a text's wing from rest, its hinges unturned -/
def liO (T : Tx) (nw w : Nat) (v s : Int32) : Option Int64 := if w < nw ∧ ¬ rnR (evR T w v s zI) z0 = -2 then some (rL T w v s zI) else none
def spY (o : Option Int64) (p : Nat × Int64 × Int64) : Nat × Int64 × Int64 := match o with
  | none => p
  | some L => (p.1 + 1, if p.1 = 0 then L else if L < p.2.1 then L else p.2.1, if p.1 = 0 then L else if p.2.2 < L then L else p.2.2)
def spX (f : Nat → Option Int64) : Nat → Nat × Int64 × Int64
  | 0 => (0, 0, 0)
  | k + 1 => spY (f k) (spX f k)
theorem spX_le (f : Nat → Option Int64) : ∀ k, (spX f k).1 ≤ k := by
  intro k
  induction k with
  | zero => exact Nat.le_refl _
  | succ k ih =>
    rw [spX]
    cases f k with
    | none => exact Nat.le_succ_of_le ih
    | some L => exact Nat.succ_le_succ ih
theorem spX_up {f : Nat → Option Int64} {n : Nat} (h : ∀ k, n ≤ k → f k = none) : ∀ d, spX f (n + d) = spX f n := by
  intro d
  induction d with
  | zero => rfl
  | succ d ih => rw [← Nat.add_assoc, spX, h _ (by omega)]; exact ih
/-- the texts that are in, and their lifts -/
def fO (nt : Nat) (inb : Nat → Bool) (T : Nat → Tx) (nwf : Nat → Nat) (w : Nat) (v s : Int32) (k : Nat) : Option Int64 := if k < nt ∧ inb k = true then liO (T k) (nwf k) w v s else none
def spZ (p : Nat × Int64 × Int64) : Int64 := if p.1 < 2 then -1 else p.2.2 - p.2.1
def gv (c : Nat) : Int32 := nI (10 * (c / 9) + 10)
def gs (c : Nat) : Int32 := nI (5 * (c % 9)) - 20
def gS (sp : Int32 → Int32 → Int64) : Nat → Int32 × Int64
  | 0 => (-2, -1)
  | c + 1 => if (gS sp c).2 < sp (gv c) (gs c) then (100 * gv c + gs c, sp (gv c) (gs c)) else gS sp c
theorem gS_ge (sp : Int32 → Int32 → Int64) : ∀ c, (-1 : Int64) ≤ (gS sp c).2 := by
  intro c
  induction c with
  | zero => exact Int64.le_refl _
  | succ c ih =>
    rw [gS]
    split
    next h => exact Int64.le_of_lt (Int64.lt_of_le_of_lt ih h)
    · exact ih
theorem mx_c (a L : Int64) : (if L < a then a else L) = if a < L then L else a := by
  by_cases h : L < a
  · rw [if_pos h, if_neg (fun q => Int64.lt_irrefl (Int64.lt_trans h q))]
  · rw [if_neg h]
    by_cases g : a < L
    · rw [if_pos g]
    · rw [if_neg g]; exact Int64.le_antisymm (Int64.not_lt.mp g) (Int64.not_lt.mp h)
theorem c_spreadAt (Ω : Om) (M : Mem) (nt w : Nat) (inb : Nat → Bool) (T : Nat → Tx) (nwf : Nat → Nat) (v s : Int32) (K : Ka) (hn4 : nt ≤ 4) (hw4 : w < 4) (hX : TxF M nt T nwf) (hS : Sta M) (hO : ∀ k, k < 4 → mI M 66 0 k = bI (!(decide (k < nt) && inb k))) (hv : 1 ≤ v.toInt ∧ v.toInt ≤ 40)
    (hK : ∀ M', Un wSo M M' → K (some (vJ (spZ (spX (fO nt inb T nwf w v s) nt)))) M') : CallS Ω true m_Runs_spreadAt [vR (some (5, 0)), vR (some (64, 0)), vR (some (66, 0)), vI (nI w), vI v, vI s] M K := by
  refine call_go (hJL rfl) (Nat.le_of_ble_eq_true rfl) (go_wp ok_Runs_spreadAt [12] 250 _ _ _ _ _ _ ?_)
  conv => whnf
  generalize hf : fO nt inb T nwf w v s = f at hK
  refine loopN 4 (fun j M1 => Un wSo M M1) (fun j M1 => ∀ (y6 y8 : Int64) (r12 r13 r14 : Option Vl), (1 ≤ (spX f j).1 → y6 = (spX f j).2.1 ∧ y8 = (spX f j).2.2) → GoS Ω true m_Runs_spreadAt K 12 [some (vR (some (5, 0))), some (vR (some (64, 0))), some (vR (some (66, 0))), some (vI (nI w)), some (vI v), some (vI s), some (vJ y6), none, some (vJ y8), none, some (vI (nI (spX f j).1)), some (vI (nI j)), r12, r13, r14] [] M1 0 0) ?_ ?_ 0 M (Nat.zero_le _) Un.rfl 0 0 none none none (fun h => absurd (show 1 ≤ 0 from h) (by decide))
  · rintro j M1 hj hU hN y6 y8 r12 r13 r14 hy
    have hXX := hU.mono sc_So
    have hle := spX_le f j
    rw [spX] at hN
    have skip : f j = none → ∀ (M2 : Mem) (r12 r13 r14 : Option Vl), Un wSo M M2 → GoS Ω true m_Runs_spreadAt K 128 [some (vR (some (5, 0))), some (vR (some (64, 0))), some (vR (some (66, 0))), some (vI (nI w)), some (vI v), some (vI s), some (vJ y6), none, some (vJ y8), none, some (vI (nI (spX f j).1)), some (vI (nI j)), r12, r13, r14] [] M2 0 0 := by
      intro hz M2 r12 r13 r14 hU2
      rw [hz, spY] at hN
      refine go_wp ok_Runs_spreadAt [12] 250 _ _ _ _ _ _ ?_
      conv => whnf
      have := hN M2 hU2 y6 y8 r12 r13 r14 hy
      rw [← nI_1 j] at this
      exact this
    refine go_wp ok_Runs_spreadAt [87, 128] 250 _ _ _ _ _ _ ?_
    refine And.intro (fun a => absurd a (nI_ge (b := 4) hj (by decide))) (fun _ => And.intro (fun a => absurd a (nI_ge (b := 4) hj (by decide))) (fun _ => ?_))
    conv => whnf
    refine And.intro (vp_in_nI (by omega) (by decide)) ?_
    rw [nI_clamp (by omega), (hU.I (k := 66) rfl).trans (hO j hj)]
    refine br_bz (fun c => ?_) (fun c => ?_)
    · have c : (decide (j < nt) && inb j) = true := by rw [← Bool.not_eq_false']; exact c
      have hjn : j < nt := of_decide_eq_true (Bool.and_eq_true_iff.mp c).1
      have hin : inb j = true := (Bool.and_eq_true_iff.mp c).2
      obtain ⟨nl, nh, nb, Ls, hT, ep⟩ := (hX.un hXX) j hjn
      have l3 := hT.1.2.2.2.2.1.2.2.1
      have ef : f j = liO (T j) (nwf j) w v s := by rw [← hf, fO, if_pos ⟨hjn, hin⟩]
      conv => whnf
      refine And.intro (vp_in_nI (by omega) (by decide)) ?_
      rw [nI_clamp (by omega), rr_text hj]
      by_cases hw : w < nwf j
      · obtain ⟨hW, hC, hL⟩ := hT.w hw
        rw [ep] at hW hC hL
        refine cl_use (fun K h => c_wingNum1 Ω M1 j (nwf j) w K l3 hT.2.1.2.2.1 hw h) trivial ?_
        conv => whnf
        refine And.intro (vp_in_nI (by omega) (by decide)) ?_
        rw [nI_clamp (by omega), rr_text hj]
        refine ⟨fun q M' => q = some (vJ (rL (T j) w v s zI)) ∧ Un wSo M1 M', c_restL Ω M1 j w 36 0 (T j) v s zI _ hW hC hL (hS.x hXX) rfl (fun _ => rfl) (fun h h4 => (hS.x hXX).2.1 h h4) (fun M' a => ⟨rfl, a⟩), trivial, ?_⟩
        rintro q M2 ⟨rfl, hU2⟩
        conv => whnf
        have hno := rL_no (s := s) (ha := zI) hW hv
        refine And.intro (fun e => ?_) (fun e => ?_)
        · have e := hno.mp ((lg_cmp_eq _ _).mp e)
          exact skip (by rw [ef, liO, if_neg (fun q => q.2 e)]) M2 _ _ _ (hU.trans hU2)
        · have e : ¬ rnR (evR (T j) w v s zI) z0 = -2 := fun q => e ((lg_cmp_eq _ _).mpr (hno.mpr q))
          have ef : f j = some (rL (T j) w v s zI) := by rw [ef, liO, if_pos ⟨hw, e⟩]
          rw [ef, spY] at hN
          generalize rL (T j) w v s zI = L at hN
          generalize spX f j = p at hN hy hle
          have fin : ∀ (z6 z8 : Int64), z6 = (if p.1 = 0 then L else if L < p.2.1 then L else p.2.1) → z8 = (if p.1 = 0 then L else if p.2.2 < L then L else p.2.2) → GoS Ω true m_Runs_spreadAt K 125 [some (vR (some (5, 0))), some (vR (some (64, 0))), some (vR (some (66, 0))), some (vI (nI w)), some (vI v), some (vI s), some (vJ z6), none, some (vJ z8), none, some (vI (nI p.1)), some (vI (nI j)), some (vR (some (10, 4 * j + w))), some (vJ L), none] [] M2 0 0 := by
            intro z6 z8 e6 e8
            refine go_wp ok_Runs_spreadAt [12] 250 _ _ _ _ _ _ ?_
            conv => whnf
            have := hN M2 (hU.trans hU2) z6 z8 (some (vR (some (10, 4 * j + w)))) (some (vJ L)) none (fun _ => ⟨e6, e8⟩)
            rw [← nI_1 j, ← nI_1 p.1] at this
            exact this
          have go : GoS Ω true m_Runs_spreadAt K 87 [some (vR (some (5, 0))), some (vR (some (64, 0))), some (vR (some (66, 0))), some (vI (nI w)), some (vI v), some (vI s), some (vJ y6), none, some (vJ y8), none, some (vI (nI p.1)), some (vI (nI j)), some (vR (some (10, 4 * j + w))), some (vJ L), none] [] M2 0 0 := by
            refine go_wp ok_Runs_spreadAt [125] 250 _ _ _ _ _ _ ?_
            by_cases hp : p.1 = 0
            · rw [hp]
              refine And.intro (fun q => absurd (show nI 0 = 0 from rfl) q) (fun _ => ?_)
              conv => whnf
              refine And.intro (fun q => absurd (show nI 0 = 0 from rfl) q) (fun _ => ?_)
              conv => whnf
              have := fin L L (if_pos hp).symm (if_pos hp).symm
              rw [hp] at this
              exact this
            · have hp2 : ¬ nI p.1 = 0 := fun q => hp (by rw [show (0 : Int32) = nI 0 from rfl, nI_eq (by omega) (by omega)] at q; exact q)
              obtain ⟨rfl, rfl⟩ := hy (by omega)
              refine And.intro (fun _ => ?_) (fun q => absurd q hp2)
              conv => whnf
              refine And.intro (fun _ => ?_) (fun q => absurd q hp2)
              conv => whnf
              refine fin _ _ ?_ ?_
              · exact (if_neg hp).symm
              · exact (mx_c _ _).trans (if_neg hp).symm
          exact go
      · refine cl_use (fun K h => c_wingNum0 Ω M1 j (nwf j) (nI w) K l3 hT.2.1.2.2.1 (fun w' hw' e => by rw [nI_eq (by omega) (by omega)] at e; omega) h) trivial ?_
        exact skip (by rw [ef, liO, if_neg (fun q => hw q.1)]) M1 _ _ _ hU
    · have c : ¬ (j < nt ∧ inb j = true) := fun q => by rw [decide_eq_true q.1, q.2] at c; exact absurd c (by decide)
      exact skip (by rw [← hf, fO, if_neg c]) M1 _ _ _ hU
  · rintro M1 hU y6 y8 r12 r13 r14 hy
    have e4 : spX f 4 = spX f nt := by
      have := spX_up (f := f) (n := nt) (fun k hk => by rw [← hf, fO, if_neg (fun q => by omega)]) (4 - nt)
      rw [show nt + (4 - nt) = 4 by omega] at this
      exact this
    rw [e4] at hy ⊢
    refine go_wp ok_Runs_spreadAt [] 250 _ _ _ _ _ _ ?_
    refine And.intro (fun _ => ?_) (fun q => absurd (Int32.le_refl _) q)
    have hle := spX_le f nt
    have hK := hK M1 hU
    unfold spZ at hK
    conv => whnf
    refine And.intro (fun q => ?_) (fun q => ?_)
    · rw [show (2 : Int32) = nI 2 from rfl, nI_leI (by omega) (by omega)] at q
      rw [if_neg (by omega)] at hK
      obtain ⟨rfl, rfl⟩ := hy (by omega)
      exact hK
    · rw [show (2 : Int32) = nI 2 from rfl, nI_leI (by omega) (by omega)] at q
      rw [if_pos (by omega)] at hK
      exact hK
theorem gv_c {i j : Nat} (h : j < 9) : gv (9 * i + j) = nI (10 * i + 10) := by
  unfold gv; rw [show (9 * i + j) / 9 = i by omega]
theorem gs_c {i j : Nat} (h : j < 9) : gs (9 * i + j) = nI (5 * j) - 20 := by
  unfold gs; rw [show (9 * i + j) % 9 = j by omega]
theorem g5_i {j : Nat} (h : j < 10) : (nI (5 * j) - 20 : Int32).toInt = 5 * (j : Int) - 20 := by
  rw [I_sub (by rw [nI_toInt (by omega), show (20 : Int32).toInt = 20 from rfl]; omega), nI_toInt (by omega), show (20 : Int32).toInt = 20 from rfl]
  omega
theorem g5_le {j : Nat} (h : j < 9) : ¬ (20 : Int32) < nI (5 * j) - 20 := by
  rw [Int32.lt_iff_toInt_lt, g5_i (by omega), show (20 : Int32).toInt = 20 from rfl]; omega
theorem g5_s (j : Nat) : (nI (5 * j) - 20 : Int32) + 5 = nI (5 * (j + 1)) - 20 := by
  rw [show 5 * (j + 1) = 5 * j + 5 by omega, ← nI_add]
  show nI (5 * j) - 20 + 5 = nI (5 * j) + 5 - 20
  grind
def spF (nt : Nat) (inb : Nat → Bool) (T : Nat → Tx) (nwf : Nat → Nat) (w : Nat) (v s : Int32) : Int64 := spZ (spX (fO nt inb T nwf w v s) nt)
theorem c_nextPlace (Ω : Om) (M : Mem) (nt w : Nat) (inb : Nat → Bool) (T : Nat → Tx) (nwf : Nat → Nat) (K : Ka) (hn4 : nt ≤ 4) (hw4 : w < 4) (hX : TxF M nt T nwf) (hS : Sta M) (hO : ∀ k, k < 4 → mI M 66 0 k = bI (!(decide (k < nt) && inb k)))
    (hK : ∀ M', Un wSo M M' → K (some (vI (gS (spF nt inb T nwf w) 36).1)) M') : CallS Ω true m_Runs_nextPlace [vR (some (5, 0)), vR (some (64, 0)), vR (some (66, 0)), vI (nI w)] M K := by
  refine call_go (hJL rfl) (Nat.le_of_ble_eq_true rfl) (go_wp ok_Runs_nextPlace [13] 250 _ _ _ _ _ _ ?_)
  conv => whnf
  generalize hsp : spF nt inb T nwf w = sp at hK
  refine loopN 4 (fun i M1 => Un wSo M M1) (fun i M1 => ∀ r8 r9 r10 : Option Vl, GoS Ω true m_Runs_nextPlace K 13 [some (vR (some (5, 0))), some (vR (some (64, 0))), some (vR (some (66, 0))), some (vI (nI w)), some (vI (gS sp (9 * i)).1), some (vJ (gS sp (9 * i)).2), none, some (vI (nI (10 * i + 10))), r8, r9, r10] [] M1 0 0) ?_ ?_ 0 M (Nat.zero_le _) Un.rfl none none none
  · rintro i M1 hi hU hN r8 r9 r10
    refine go_wp ok_Runs_nextPlace [24] 250 _ _ _ _ _ _ ?_
    refine And.intro (fun q => absurd q (nI_nlt (a := 40) (by omega) (by decide))) (fun _ => ?_)
    conv => whnf
    refine loopN 9 (fun j M2 => Un wSo M M2) (fun j M2 => ∀ r9 r10 : Option Vl, GoS Ω true m_Runs_nextPlace K 24 [some (vR (some (5, 0))), some (vR (some (64, 0))), some (vR (some (66, 0))), some (vI (nI w)), some (vI (gS sp (9 * i + j)).1), some (vJ (gS sp (9 * i + j)).2), none, some (vI (nI (10 * i + 10))), some (vI (nI (5 * j) - 20)), r9, r10] [] M2 0 0) ?_ ?_ 0 M1 (Nat.zero_le _) hU r9 r10
    · rintro j M2 hj hU2 hN2 r9 r10
      have hXX := hU2.mono sc_So
      refine go_wp ok_Runs_nextPlace [66] 250 _ _ _ _ _ _ ?_
      refine And.intro (fun q => absurd q (g5_le hj)) (fun _ => ?_)
      conv => whnf
      have hv : 1 ≤ (nI (10 * i + 10)).toInt ∧ (nI (10 * i + 10)).toInt ≤ 40 := by rw [nI_toInt (by omega)]; omega
      refine ⟨fun q M' => q = some (vJ (sp (gv (9 * i + j)) (gs (9 * i + j)))) ∧ Un wSo M2 M', c_spreadAt Ω M2 nt w inb T nwf (nI (10 * i + 10)) (nI (5 * j) - 20) _ hn4 hw4 (hX.un hXX) (hS.x hXX) (fun k hk => (hU2.I rfl).trans (hO k hk)) hv (fun M' a => ⟨by rw [gv_c hj, gs_c hj, ← hsp]; rfl, a⟩), trivial, ?_⟩
      rintro q M3 ⟨rfl, hU3⟩
      rw [show 9 * i + (j + 1) = 9 * i + j + 1 by omega, gS] at hN2
      have fin : ∀ (z : Int32 × Int64), z = (if (gS sp (9 * i + j)).2 < sp (gv (9 * i + j)) (gs (9 * i + j)) then (100 * gv (9 * i + j) + gs (9 * i + j), sp (gv (9 * i + j)) (gs (9 * i + j))) else gS sp (9 * i + j)) → GoS Ω true m_Runs_nextPlace K 66 [some (vR (some (5, 0))), some (vR (some (64, 0))), some (vR (some (66, 0))), some (vI (nI w)), some (vI z.1), some (vJ z.2), none, some (vI (nI (10 * i + 10))), some (vI (nI (5 * j) - 20)), some (vJ (sp (gv (9 * i + j)) (gs (9 * i + j)))), none] [] M3 0 0 := by
        intro z hz
        refine go_wp ok_Runs_nextPlace [24] 250 _ _ _ _ _ _ ?_
        conv => whnf
        have := hN2 M3 (hU2.trans hU3) (some (vJ (sp (gv (9 * i + j)) (gs (9 * i + j))))) none
        rw [← hz, ← g5_s] at this
        exact this
      conv => whnf
      refine And.intro (fun e => ?_) (fun e => ?_)
      · have e := (lg_cmp_le _ _).mp e
        exact fin _ (if_neg (Int64.not_lt.mpr e)).symm
      · have e := Int64.not_le.mp (fun q => e ((lg_cmp_le _ _).mpr q))
        conv => whnf
        have := fin _ (if_pos e).symm
        rw [gv_c hj, gs_c hj] at this ⊢
        exact this
    · rintro M2 hU2 r9 r10
      refine go_wp ok_Runs_nextPlace [13] 250 _ _ _ _ _ _ ?_
      refine And.intro (fun _ => ?_) (fun q => absurd (show (20 : Int32) < nI (5 * 9) - 20 by decide) q)
      conv => whnf
      have := hN M2 hU2 (some (vI (nI (5 * 9) - 20))) r9 r10
      rw [show 9 * (i + 1) = 9 * i + 9 by omega, show 10 * (i + 1) + 10 = (10 * i + 10) + 10 by omega, ← nI_add] at this
      exact this
  · rintro M1 hU r8 r9 r10
    refine go_wp ok_Runs_nextPlace [] 250 _ _ _ _ _ _ ?_
    exact And.intro (fun _ => hK M1 hU) (fun q => absurd (show (40 : Int32) < nI (10 * 4 + 10) by decide) q)
