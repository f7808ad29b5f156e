/-! READ: what is kept of the other texts -/
def Ag (T T' : Tx) : Prop := ∀ f a, 74 ≤ f → f ≤ 97 → a < szf f → T' f a = T f a
def oCl (t k i s : Nat) : Prop := (i = t ∧ (k = 7 ∨ (k = 0 ∧ s = 4) ∨ (13 ≤ k ∧ k ≤ 15) ∨ k = 43 ∨ k = 44)) ∨ ((k = 3 ∨ k = 27 ∨ k = 28) ∧ i / 8 = t) ∨ ((k = 10 ∨ (57 ≤ k ∧ k ≤ 62)) ∧ i / 4 = t)
def oMd (t k s : Nat) : Prop := ((k = 99 ∨ k = 100) ∧ s / 8 = t) ∨ ((101 ≤ k ∧ k ≤ 106) ∧ s / 200 = t) ∨ ((k = 107 ∨ k = 108) ∧ s / 520 ≤ t)
theorem LwOK.ag {T T' : Tx} {k : Nat} (e : Ag T T') (hk : k < 8) (h : LwOK T k) : LwOK T' k := h.cq (e 77 k (by decide) (by decide) hk) (fun f j hf hj => by
  rcases hf with rfl | rfl
  · exact e 78 _ (by decide) (by decide) (by show 8 * k + j < 64; omega)
  · exact e 79 _ (by decide) (by decide) (by show 8 * k + j < 64; omega))
theorem StOK.ag {T T' : Tx} {q : Nat} (e : Ag T T') (hq : q < 40) (h : StOK T q) : StOK T' q := by
  obtain ⟨a1, ⟨k, b1, b2, b3⟩, ⟨k', c1, c2, c3⟩, d, f⟩ := h
  unfold StOK
  rw [e 92 q (by decide) (by decide) hq, e 93 q (by decide) (by decide) hq, e 94 q (by decide) (by decide) hq, e 95 q (by decide) (by decide) hq, e 96 q (by decide) (by decide) hq]
  exact ⟨a1, ⟨k, b1, b2, b3.ag e b1⟩, ⟨k', c1, c2, c3.ag e c1⟩, d, f⟩
theorem WgOK.ag {T T' : Tx} {w : Nat} (e : Ag T T') (hw : w < 4) (h : WgOK T w) : WgOK T' w := by
  obtain ⟨⟨n, a1, a2, a3, a4⟩, b, c, d, g, i⟩ := h
  unfold WgOK
  rw [e 86 w (by decide) (by decide) hw, e 87 w (by decide) (by decide) hw, e 88 w (by decide) (by decide) hw, e 89 w (by decide) (by decide) hw, e 90 w (by decide) (by decide) hw]
  refine ⟨⟨n, a1, a2, a3, fun i hi => (a4 i hi).ag e (by omega)⟩, b, c, d, g, fun q j hj => ?_⟩
  rw [e 91 _ (by decide) (by decide) (show 4 * w + j < 16 by omega)]
  exact i q j hj
theorem wN.ag {T T' : Tx} {w : Nat} (e : Ag T T') (hw : w < 4) : wN T' w = wN T w := by
  unfold wN
  rw [e 86 w (by decide) (by decide) hw]
theorem TxOK.ag {T T' : Tx} {nl nh nw nb : Nat} (e : Ag T T') (h : TxOK T nl nh nw nb) : TxOK T' nl nh nw nb := by
  obtain ⟨a1, a2, a3, a4, a5, a6, a7, a8, a9⟩ := h
  refine ⟨(e 74 0 (by decide) (by decide) (by decide)).trans a1, (e 80 0 (by decide) (by decide) (by decide)).trans a2, (e 84 0 (by decide) (by decide) (by decide)).trans a3, (e 97 0 (by decide) (by decide) (by decide)).trans a4, a5, fun k hk => (a6 k hk).ag e (by omega), fun k hk => ?_, fun k hk => ?_, fun w hw => ⟨(a9 w hw).1.ag e (by omega), fun i hi k hk hq => ?_⟩⟩
  · rw [e 82 k (by decide) (by decide) (show k < 4 by omega)]; exact a7 k hk
  · rw [e 83 k (by decide) (by decide) hk]; exact a8 k hk
  · have hn := (a9 w hw).1.n.2.2.1
    rw [wN.ag e (by omega)] at hi
    rw [e 93 _ (by decide) (by decide) (show 10 * w + i < 40 by omega), e 94 _ (by decide) (by decide) (show 10 * w + i < 40 by omega)] at hq
    exact (a9 w hw).2 i hi k hk hq
theorem ClTx.ot {M M' : Mem} {t : Nat} {T T' : Tx} {nl nh nw nb : Nat} (hO : TxOK T nl nh nw nb) (e : Ag T T') (hc : ∀ k i s, oCl t k i s → mI M' k i s = mI M k i s) (h : ClTx M t T nl nh nw nb) : ClTx M' t T' nl nh nw nb := by
  obtain ⟨a1, a2, a3, a4, a5, a6, a7, a8⟩ := h
  obtain ⟨-, -, -, -, o5, o6, -, -, o9⟩ := hO
  refine ⟨(hc 7 t 1 (by unfold oCl; omega)).trans a1, (hc 7 t 4 (by unfold oCl; omega)).trans a2, (hc 7 t 6 (by unfold oCl; omega)).trans a3, (hc 0 t 4 (by unfold oCl; omega)).trans a4, fun k hk => ⟨?_, fun j hj => ?_⟩, fun k hk => ?_, fun k hk => ?_, fun w hw => ?_⟩
  · rw [hc 3 _ 2 (by unfold oCl; omega), e 77 k (by decide) (by decide) (show k < 8 by omega)]
    exact (a5 k hk).1
  · have hn := (o6 k hk).n.2.2.1
    rw [e 77 k (by decide) (by decide) (show k < 8 by omega)] at hj
    rw [hc 27 _ j (by unfold oCl; omega), hc 28 _ j (by unfold oCl; omega), e 78 _ (by decide) (by decide) (show 8 * k + j < 64 by omega), e 79 _ (by decide) (by decide) (show 8 * k + j < 64 by omega)]
    exact (a5 k hk).2 j hj
  · rw [hc 43 t k (by unfold oCl; omega), e 82 k (by decide) (by decide) (show k < 4 by omega)]; exact a6 k hk
  · rw [hc 44 t k (by unfold oCl; omega), e 83 k (by decide) (by decide) hk]; exact a7 k hk
  · have hn := (o9 w hw).1.n.2.2.1
    have hw4 : w < 4 := by omega
    obtain ⟨b1, b2, b3, b4, b5, b6, b7⟩ := a8 w hw
    unfold ClW
    rw [wN.ag e hw4, hc 10 _ 0 (by unfold oCl; omega), hc 10 _ 6 (by unfold oCl; omega), hc 10 _ 7 (by unfold oCl; omega), hc 10 _ 8 (by unfold oCl; omega), hc 10 _ 10 (by unfold oCl; omega), e 86 w (by decide) (by decide) hw4, e 87 w (by decide) (by decide) hw4, e 88 w (by decide) (by decide) hw4, e 89 w (by decide) (by decide) hw4, e 90 w (by decide) (by decide) hw4]
    refine ⟨b1, b2, b3, b4, fun i hi => ?_, b6, fun q j hj => ?_⟩
    · rw [hc 57 _ i (by unfold oCl; omega), hc 58 _ i (by unfold oCl; omega), hc 59 _ i (by unfold oCl; omega), hc 60 _ i (by unfold oCl; omega), hc 61 _ i (by unfold oCl; omega), e 92 _ (by decide) (by decide) (show 10 * w + i < 40 by omega), e 93 _ (by decide) (by decide) (show 10 * w + i < 40 by omega), e 94 _ (by decide) (by decide) (show 10 * w + i < 40 by omega), e 95 _ (by decide) (by decide) (show 10 * w + i < 40 by omega), e 96 _ (by decide) (by decide) (show 10 * w + i < 40 by omega)]
      exact b5 i hi
    · rw [hc 62 _ j (by unfold oCl; omega), e 91 _ (by decide) (by decide) (show 4 * w + j < 16 by omega)]
      exact b7 q j hj
theorem SpC.ot {M M' : Mem} {t : Nat} (h1 : ∀ s, mI M' 13 t s = mI M 13 t s) (h2 : ∀ s, mI M' 14 t s = mI M 14 t s) : ∀ {xs : List (Int32 × Int32)} {q : Nat}, SpC M t q xs → SpC M' t q xs := by
  intro xs
  induction xs with
  | nil => intro q _; trivial
  | cons x xs ih => intro q h; exact ⟨⟨(h1 q).trans h.1.1, (h2 q).trans h.1.2⟩, ih h.2⟩
theorem SpL.ot {M M' : Mem} {t : Nat} (hm : ∀ k s, oMd t k s → mI M' k 0 s = mI M k 0 s) : ∀ {ls : List Lt} {q : Nat}, SpL M q ls → (200 * t ≤ q ∧ q + ls.length ≤ 200 * t + 200) → (∀ j, j < ls.length → ∃ a c, mI M 104 0 (q + j) = nI a ∧ 520 * t ≤ a ∧ mI M 106 0 (q + j) = nI c ∧ c ≤ 520 * t + 520) → t < 4 → SpL M' q ls := by
  intro ls
  induction ls with
  | nil => intro q _ _ _ _; trivial
  | cons l ls ih =>
    intro q h hq hr ht
    have hq2 : q + (ls.length + 1) ≤ 200 * t + 200 := hq.2
    refine ⟨?_, ih h.2 ⟨by omega, by omega⟩ (fun j hj => ?_) ht⟩
    · obtain ⟨a1, a2, a3, a, b1, b2, b3, b4, b5, b6⟩ := h.1
      obtain ⟨a', c, r1, r2, r3, r4⟩ := hr 0 (Nat.succ_pos _)
      rw [Nat.add_zero] at r1 r3
      have p1 : a + l.2.2.2.1.length + l.2.2.2.2.length ≤ 520 * t + 520 := by
        have q3 := r3.symm.trans b3
        rw [nI_eq (by omega) (by omega)] at q3
        omega
      have x : ∀ k, 101 ≤ k → k ≤ 106 → mI M' k 0 q = mI M k 0 q := fun k h1 h2 => hm k q (by unfold oMd; omega)
      have y : ∀ s, s < 520 * t + 520 → mI M' 107 0 s = mI M 107 0 s ∧ mI M' 108 0 s = mI M 108 0 s := fun s h2 => ⟨hm 107 s (by unfold oMd; omega), hm 108 s (by unfold oMd; omega)⟩
      have sp : ∀ {cs : List Cd} {q : Nat}, q + cs.length ≤ 520 * t + 520 → SpM M q cs → SpM M' q cs := by
        intro cs
        induction cs with
        | nil => intro q _ _; trivial
        | cons c cs ih =>
          intro q h2 h
          have h2 : q + (cs.length + 1) ≤ 520 * t + 520 := h2
          have := y q (by omega)
          exact ⟨⟨this.1.trans h.1.1, this.2.trans h.1.2⟩, ih (by omega) h.2⟩
      exact ⟨(x _ (by decide) (by decide)).trans a1, (x _ (by decide) (by decide)).trans a2, (x _ (by decide) (by decide)).trans a3, a, (x _ (by decide) (by decide)).trans b1, (x _ (by decide) (by decide)).trans b2, (x _ (by decide) (by decide)).trans b3, b4, sp (by omega) b5, sp (by omega) b6⟩
    · have := hr (j + 1) (Nat.succ_lt_succ hj)
      rw [show q + (j + 1) = q + 1 + j by omega] at this
      exact this
theorem MdB.ot {M M' : Mem} {t b : Nat} {L : List Lt} (ht : t < 4) (hb : b < 8) (hm : ∀ k s, oMd t k s → mI M' k 0 s = mI M k 0 s) (h : MdB M (8 * t + b) L) : MdB M' (8 * t + b) L := by
  obtain ⟨f, a1, a2, a3, a4, a5, a6⟩ := h
  rw [show (8 * t + b) / 8 = t by omega] at a5 a6
  refine ⟨f, (hm 99 _ (by unfold oMd; omega)).trans a1, (hm 100 _ (by unfold oMd; omega)).trans a2, a3, SpL.ot hm a4 a5 a6 ht, ?_⟩
  unfold RgL
  rw [show (8 * t + b) / 8 = t by omega]
  refine ⟨a5, fun j hj => ?_⟩
  obtain ⟨a, c, r1, r2, r3, r4⟩ := a6 j hj
  exact ⟨a, c, (hm 104 _ (by unfold oMd; omega)).trans r1, r2, (hm 106 _ (by unfold oMd; omega)).trans r3, r4⟩
theorem TxC.ot {M M' : Mem} {t nl nh nw nb : Nat} {Ls : Nat → List Lt} (h : TxC M t nl nh nw nb Ls) (ht : t < 4) (e : Ag (pg M t) (pg M' t)) (hc : ∀ k i s, oCl t k i s → mI M' k i s = mI M k i s) (hm : ∀ k s, oMd t k s → mI M' k 0 s = mI M k 0 s) : TxC M' t nl nh nw nb Ls := by
  obtain ⟨a, b, c⟩ := h
  refine ⟨a.ag e, b.ot a e hc, fun k hk => ?_⟩
  have hk8 : k < 8 := by have := a.2.2.2.2.1; omega
  obtain ⟨c1, ⟨s0, d1, d2, d3, d4, d5⟩, c3⟩ := c k hk
  refine ⟨c1, ⟨s0, d1, fun b' hb' => (hc 15 t b' (by unfold oCl; omega)).trans (d2 b' hb'), (hc 15 t k (by unfold oCl; omega)).trans d3, d4, d5.ot (fun s => hc 13 t s (by unfold oCl; omega)) (fun s => hc 14 t s (by unfold oCl; omega))⟩, c3.ot ht hk8 hm⟩
