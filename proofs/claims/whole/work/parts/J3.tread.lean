/-! TURN: read -/
theorem and255 (x : Int32) : ∃ b, b < 256 ∧ x &&& 255 = nI b := by
  refine ⟨(x &&& 255).toBitVec.toNat, ?_, ?_⟩
  · rw [Int32.toBitVec_and, BitVec.toNat_and]
    refine Nat.lt_of_le_of_lt Nat.and_le_right ?_
    decide
  · apply Int32.toBitVec_inj.mp
    show (x &&& 255).toBitVec = BitVec.ofNat 32 (x &&& 255).toBitVec.toNat
    rw [BitVec.ofNat_toNat, BitVec.setWidth_eq]
def wRA (nt k i s : Nat) : Bool := wRh nt k i s || wRz nt k i s
theorem wRh_is {nt k i s : Nat} : wRh nt k i s = true ↔ ((i = nt ∧ (k = 0 ∨ (k = 7 ∨ ((13 ≤ k ∧ k ≤ 15) ∨ (k = 43 ∨ (k = 44 ∨ (46 ≤ k ∧ k ≤ 48))))))) ∨ (((k = 3 ∨ (k = 27 ∨ k = 28)) ∧ i / 8 = nt) ∨ (((k = 10 ∨ (57 ≤ k ∧ k ≤ 62)) ∧ i / 4 = nt) ∨ (((k = 2 ∨ (23 ≤ k ∧ k ≤ 26)) ∧ (2 ≤ i ∧ (i - 2) / 4 = nt)) ∨ (k = 4 ∨ (k = 29 ∨ (k = 8 ∨ (50 ≤ k ∧ k ≤ 52)))))))) ∨ (k = 11 ∧ (s = 1 ∨ (s = 2 ∨ (s = 4 ∨ s = 5)))) := by
  simp [wRh, wTx, nb_d, nl_d]
theorem wRz_is {p k i s : Nat} : wRz p k i s = true ↔ ((k = 12 ∧ ((11 ≤ s ∧ s ≤ 16) ∨ (s = 48 ∨ (s = 55 ∨ (s = 58 ∨ s = 60))))) ∨ (k = 109 ∨ ((74 ≤ k ∧ k ≤ 108) ∧ s / psz k = p))) ∨ ((k = 12 ∧ (s = 2 ∨ (s = 4 ∨ (s = 10 ∨ (s = 17 ∨ (s = 18 ∨ (s = 19 ∨ s = 20))))))) ∨ ((68 ≤ k ∧ k ≤ 72) ∨ (k = 119 ∧ s / 4 = p))) := by
  simp [wRz, wPr, nb_d, nl_d]
theorem wRA_no {nt k i s : Nat} (h1 : ¬ (((i = nt ∧ (k = 0 ∨ (k = 7 ∨ ((13 ≤ k ∧ k ≤ 15) ∨ (k = 43 ∨ (k = 44 ∨ (46 ≤ k ∧ k ≤ 48))))))) ∨ (((k = 3 ∨ (k = 27 ∨ k = 28)) ∧ i / 8 = nt) ∨ (((k = 10 ∨ (57 ≤ k ∧ k ≤ 62)) ∧ i / 4 = nt) ∨ (((k = 2 ∨ (23 ≤ k ∧ k ≤ 26)) ∧ (2 ≤ i ∧ (i - 2) / 4 = nt)) ∨ (k = 4 ∨ (k = 29 ∨ (k = 8 ∨ (50 ≤ k ∧ k ≤ 52)))))))) ∨ (k = 11 ∧ (s = 1 ∨ (s = 2 ∨ (s = 4 ∨ s = 5)))))) (h2 : ¬ (((k = 12 ∧ ((11 ≤ s ∧ s ≤ 16) ∨ (s = 48 ∨ (s = 55 ∨ (s = 58 ∨ s = 60))))) ∨ (k = 109 ∨ ((74 ≤ k ∧ k ≤ 108) ∧ s / psz k = nt))) ∨ ((k = 12 ∧ (s = 2 ∨ (s = 4 ∨ (s = 10 ∨ (s = 17 ∨ (s = 18 ∨ (s = 19 ∨ s = 20))))))) ∨ ((68 ≤ k ∧ k ≤ 72) ∨ (k = 119 ∧ s / 4 = nt))))) : wRA nt k i s = false := by
  unfold wRA
  rw [Bool.eq_false_iff.mpr (fun z => h1 (wRh_is.mp z)), Bool.eq_false_iff.mpr (fun z => h2 (wRz_is.mp z))]
  rfl
theorem wRz_no {nt k i s : Nat} (h2 : ¬ (((k = 12 ∧ ((11 ≤ s ∧ s ≤ 16) ∨ (s = 48 ∨ (s = 55 ∨ (s = 58 ∨ s = 60))))) ∨ (k = 109 ∨ ((74 ≤ k ∧ k ≤ 108) ∧ s / psz k = nt))) ∨ ((k = 12 ∧ (s = 2 ∨ (s = 4 ∨ (s = 10 ∨ (s = 17 ∨ (s = 18 ∨ (s = 19 ∨ s = 20))))))) ∨ ((68 ≤ k ∧ k ≤ 72) ∨ (k = 119 ∧ s / 4 = nt))))) : wRz nt k i s = false := Bool.eq_false_iff.mpr (fun z => h2 (wRz_is.mp z))
theorem psz_szf : ∀ f, f < 98 → 74 ≤ f → (psz f = szf f ∧ 0 < szf f) ∨ (szf f = 1 ∧ 4 ≤ psz f) := by decide +kernel
theorem psz_200 : ∀ k, k < 107 → 101 ≤ k → psz k = 200 := by decide +kernel
theorem wRA_h {nt : Nat} : ∀ k i s, wRA nt k i s = false → wRh nt k i s = false := fun k i s q => (Bool.or_eq_false_iff.mp q).1
theorem wRA_z {nt : Nat} : ∀ k i s, wRA nt k i s = false → wRz nt k i s = false := fun k i s q => (Bool.or_eq_false_iff.mp q).2
/-- the other texts stay -/
theorem rd_keep {M M' : Mem} {nt t nl nh nw nb : Nat} {Ls : Nat → List Lt} (hnt : nt < 4) (ht : t < nt) (hU : Un (wRA nt) M M') (h : TxC M t nl nh nw nb Ls) : TxC M' t nl nh nw nb Ls ∧ ∀ w, w < 4 → SlC M t w → SlC M' t w := by
  have ag : Ag (pg M t) (pg M' t) := fun f a h1 h2 ha => by
    rw [← pgI (M := M') (p := t) (f := f) (a := a) (by rw [Nat.ble_eq.mpr h1, Nat.ble_eq.mpr (show f ≤ 108 by omega)]; rfl) rfl, ← pgI (M := M) (p := t) (f := f) (a := a) (by rw [Nat.ble_eq.mpr h1, Nat.ble_eq.mpr (show f ≤ 108 by omega)]; rfl) rfl]
    refine hU.I (wRA_no (by omega) (fun z => ?_))
    have z : (szf f * t + a) / psz f = nt := by omega
    rcases psz_szf f (by omega) h1 with ⟨q, q0⟩ | ⟨q, q2⟩
    · rw [q, Nat.mul_add_div q0, Nat.div_eq_of_lt ha] at z
      omega
    · have a0 : a = 0 := by omega
      rw [q, a0, Nat.one_mul, Nat.add_zero, Nat.div_eq_of_lt (by omega)] at z
      omega
  refine ⟨h.ot (by omega) ag (fun k i s hk => hU.I (wRA_no (by unfold oCl at hk; omega) (by unfold oCl at hk; omega))) (fun k s hk => hU.I (wRA_no (by unfold oMd at hk; omega) (fun z => ?_))), fun w hw hs => hs.un2 hU (fun k i s hk => wRA_no (by simp [cSl, nb_d, nl_d] at hk; omega) (by simp [cSl, nb_d, nl_d] at hk; omega)) (wN.ag ag hw)⟩
  unfold oMd at hk
  have hk2 : 99 ≤ k ∧ k ≤ 108 := by omega
  have z : s / psz k = nt := by omega
  rcases hk with ⟨rfl | rfl, q⟩ | ⟨q1, q⟩ | ⟨rfl | rfl, q⟩
  · rw [show psz 99 = 8 from rfl] at z; omega
  · rw [show psz 100 = 8 from rfl] at z; omega
  · rw [psz_200 k (by omega) (by omega)] at z; omega
  · rw [show psz 107 = 520 from rfl] at z; omega
  · rw [show psz 108 = 520 from rfl] at z; omega
theorem c_WH_read4 (Ω : Om) (M : Mem) (K : Ka) (h4 : mI M 11 0 4 = nI 4) (hK : K (some (vI (-2))) M) : CallS Ω true m_WH_read [vR (some (11, 0))] M K := by
  refine call_go (hJL rfl) (Nat.le_of_ble_eq_true rfl) (go_wp ok_WH_read [] 250 _ _ _ _ _ _ ?_)
  conv => whnf
  rw [h4]
  refine And.intro (fun z => absurd z (by decide)) (fun _ => ?_)
  conv => whnf
  exact hK
theorem c_MD_read4 (Ω : Om) (M : Mem) (K : Ka) (h4 : mI M 12 0 18 = nI 4) (hK : K (some (vI (-2))) M) : CallS Ω true m_MD_read [vR (some (12, 0))] M K := by
  refine call_go (hJL rfl) (Nat.le_of_ble_eq_true rfl) (go_wp ok_MD_read [] 250 _ _ _ _ _ _ ?_)
  conv => whnf
  rw [h4]
  refine And.intro (fun z => absurd rfl z) (fun _ => ?_)
  conv => whnf
  exact hK
set_option maxRecDepth 8000 in
set_option maxHeartbeats 2000000 in
theorem t_read (Ω : Om) (M : Mem) (h : Inv M) : Turn Ω tyI m_WH_read m_MD_read [] M := by
  obtain ⟨nt, o, a1, a2, a3, ⟨n, hn, b1, b2, b3⟩, a5, a6, a7, a8, a9, a10⟩ := id h
  have hn4 := a1.1
  by_cases c4 : nt = 4
  · subst c4
    refine ⟨fun r M1 => r = some (vI (-2)) ∧ M1 = M, c_WH_read4 Ω M _ a1.2.1 ⟨rfl, rfl⟩, ?_⟩
    rintro r M1 ⟨rfl, rfl⟩
    exact ⟨⟨_, rfl⟩, fun _ => rfl, c_MD_read4 Ω M1 _ a2.2.1 ⟨rfl, h, fun _ => rfl⟩⟩
  have hnt : nt < 4 := by omega
  have hB : ∀ i, mI M 63 0 i &&& 255 = nI ((mI M 63 0 i &&& 255).toNatClampNeg) ∧ (mI M 63 0 i &&& 255).toNatClampNeg < 256 := fun i => by
    obtain ⟨b, hb, e⟩ := and255 (mI M 63 0 i)
    rw [e, nI_clamp (by omega)]
    exact ⟨rfl, hb⟩
  obtain ⟨B, hBe⟩ : ∃ B : Nat → Nat, B = fun i => (mI M 63 0 i &&& 255).toNatClampNeg := ⟨_, rfl⟩
  have hB : ∀ i, mI M 63 0 i &&& 255 = nI (B i) ∧ B i < 256 := by rw [hBe]; exact hB
  clear hBe
  obtain ⟨e, he⟩ : ∃ e : Except Fa Ps, e = eb (paT B n (pg M nt)) fun r => .ok r.1 := ⟨_, rfl⟩
  refine ⟨fun r M1 => r = some (vI (nI (rdA e))) ∧ Un (wRh nt) M M1 ∧ ClrF M1 nt ∧ (∀ r, paT B n (pg M nt) = .ok r → CtC M1 nt r.2 r.1) ∧ mI M1 11 0 1 = 0 ∧ mI M1 11 0 2 = rdP B n e ∧ rdA e ≤ 5 ∧ (rdA e = 0 → mI M1 11 0 4 = nI (nt + 1) ∧ mI M1 11 0 5 = nI nt) ∧ (¬ rdA e = 0 → mI M1 11 0 4 = nI nt ∧ mI M1 11 0 5 = mI M 11 0 5), c_WH_read Ω M B n nt (pg M nt) _ hn (fun i _ => hB i) a10.2.2.2.1 b1 a1.2.1 hnt (fun M' x1 x2 x3 x4 x5 x6 x7 x8 => by rw [← he] at x5 x6 x7 x8 ⊢; exact ⟨rfl, x1, x2, x3, x4, x5, x6, x7, x8⟩), ?_⟩
  rintro r M1 ⟨rfl, U1, F1, C1, y1, y2, y3, y4, y5⟩
  have epg : pg M1 nt = pg M nt := pg_un U1 (fun f s h1 h2 => Bool.eq_false_iff.mpr (fun z => by rw [wRh_is] at z; omega)) nt
  have u1 : ∀ k i s, wRA nt k i s = false → wRh nt k i s = false := wRA_h
  have noh : ∀ {k i s : Nat}, wRA nt k i s = false → mI M1 k i s = mI M k i s := fun {k i s} q => U1.I (wRA_h k i s q)
  refine ⟨⟨_, rfl⟩, fun s => noh (wRA_no (by omega) (by omega)), ?_⟩
  have m12 : ∀ s, mI M1 12 0 s = mI M 12 0 s := fun s => U1.I (Bool.eq_false_iff.mpr (fun z => by rw [wRh_is] at z; omega))
  -- what both cases share
  have rest : ∀ M2, Un (wRA nt) M M2 → Gst M2 ∧ Crv M2 ∧ Bst M2 ∧ Rns M2 ∧ Sta M2 := fun M2 U => by
    refine ⟨a5.un U (fun s => wRA_no (by omega) (by omega)) (fun s => wRA_no (by omega) (by omega)), a7.un U (fun s => wRA_no (by omega) (by omega)) (fun s => wRA_no (by omega) (by omega)) (fun s => wRA_no (by omega) (by omega)), a8.un U (fun s => wRA_no (by omega) (by omega)) (fun s => wRA_no (by omega) (by omega)), a9.un U (wRA_no (by omega) (by omega)) (wRA_no (by omega) (by omega)) (fun k s hk => wRA_no (by omega) (by omega)), a10.un U (fun s => wRA_no (by omega) (by omega)) (fun s => wRA_no (by omega) (by omega)) (fun s => wRA_no (by omega) (by omega)) (fun s => wRA_no (by omega) (by omega)) (fun s => wRA_no (by omega) (by omega))⟩
  have no11 : ∀ {i s : Nat}, wRz nt 11 i s = false := fun {i s} => wRz_no (by omega)
  refine c_MD_read Ω M1 B n nt _ hn (fun i hi => ?_) (fun s hs => ?_) ((m12 2).trans b2) ((m12 18).trans a2.2.1) hnt (fun M2 a U2 ha h0 z2 z17 z18 z19 => ?_) (fun M5 M2 r U2 hr hlt C5 h5 U5 z2 z17 z18 z19 z83 z119 => ?_)
  · rw [noh (wRA_no (by omega) (by omega)), ← b3 i hi]
    exact hB i
  · rw [U1.J (wRA_h _ _ _ (wRA_no (by omega) (by omega)))]
    exact a10.2.2.2.2 s hs
  · rw [epg, ← he] at ha z17
    subst ha
    have U : Un (wRA nt) M M2 := (U1.mono wRA_h).trans (U2.mono wRA_z)
    obtain ⟨k1, k2, k3, k4, k5⟩ := rest M2 U
    obtain ⟨v1, v2⟩ := y5 h0
    refine ⟨rfl, ⟨nt, o, ⟨hn4, (U2.I no11).trans v1, ?_, a1.2.2.2⟩, ⟨hn4, z18, ?_, a2.2.2.2⟩, ?_, ⟨0, Nat.zero_le _, (U2.I no11).trans y1, z2, fun i hi => absurd hi (Nat.not_lt_zero _)⟩, k1, fun t ht => ?_, k2, k3, k4, k5⟩, fun s => U2.I (wRA_z _ _ _ (wRA_no (by omega) (by omega)))⟩
    · rw [U2.I no11, v2]; exact a1.2.2.1
    · rw [z19, m12]; exact a2.2.2.1
    · rw [U2.I no11, y2, z17]
    · obtain ⟨⟨nl, nh, nw, nb, Ls, w1'⟩, w2'⟩ := a6 t ht
      obtain ⟨q1, q2⟩ := rd_keep hnt ht U w1'
      exact ⟨⟨nl, nh, nw, nb, Ls, q1⟩, fun w hw => q2 w hw (w2' w hw)⟩
  · rw [epg] at hr
    have er : e = .ok r.1 := by rw [he, hr, eb_k]
    have ea : rdA e = 0 := by
      rw [er]
      show (match r.1.2.2 with | none => 0 | some q => q.1) = 0
      rw [hlt]
    have ep : rdP B n e = -1 := by
      rw [er]
      show (match r.1.2.2 with | none => -1 | some q => nI (psS B n q.2)) = -1
      rw [hlt]
    have U : Un (wRA nt) M M2 := (U1.mono wRA_h).trans (U2.mono wRA_z)
    obtain ⟨k1, k2, k3, k4, k5⟩ := rest M2 U
    obtain ⟨v1, v2⟩ := y4 ea
    have hG : CnG r.2 := CnG.pa ⟨⟨Nat.zero_le _, Nat.zero_le _, Nat.zero_le _, Nat.zero_le _⟩, fun k hk => absurd hk (Nat.not_lt_zero _), fun k hk => absurd hk (Nat.not_lt_zero _), fun k hk => absurd hk (Nat.not_lt_zero _), fun q hq => by cases hq⟩ hr hlt
    have hcl : ∀ k i s, oCl nt k i s → mI M2 k i s = mI M1 k i s := fun k i s hk => U2.I (wRz_no (by unfold oCl at hk; omega))
    have new := TxC.new hnt (C1 r hr) F1 C5 hG hlt U5 z83 hcl h5
    refine ⟨by rw [ea]; rfl, ⟨nt + 1, some nt, ⟨by omega, (U2.I no11).trans v1, (U2.I no11).trans v2, fun t ht => by cases ht; omega⟩, ⟨by omega, z18, z19, fun t ht => by cases ht; omega⟩, ?_, ⟨0, Nat.zero_le _, (U2.I no11).trans y1, z2, fun i hi => absurd hi (Nat.not_lt_zero _)⟩, k1, fun t ht => ?_, k2, k3, k4, k5⟩, fun s => U2.I (wRA_z _ _ _ (wRA_no (by omega) (by omega)))⟩
    · rw [U2.I no11, y2, z17, ep]
    · by_cases et : t = nt
      · subst et
        refine ⟨⟨_, _, _, _, _, new⟩, fun w hw => Or.inl ⟨?_, z119 w hw, fun i hi => ?_⟩⟩
        · rw [U2.I (wRz_no (by omega))]; exact (F1.1 w hw).1
        · rw [U2.J (wRz_no (by omega))]; exact (F1.1 w hw).2 i hi
      · obtain ⟨⟨nl, nh, nw, nb, Ls, w1'⟩, w2'⟩ := a6 t (by omega)
        obtain ⟨q1, q2⟩ := rd_keep hnt (show t < nt by omega) U w1'
        exact ⟨⟨nl, nh, nw, nb, Ls, q1⟩, fun w hw => q2 w hw (w2' w hw)⟩
