/-! EACH INSTRUCTION, IV: rows -/
section INR
variable {Ω : Om} {md : Bool} {i : Nat} {p : Program} {e : Env} {s : State} {m : MethodId} {args : Array Value} {below : List Frame} {meth : Method} {cf : Code} {Q : State → Prop} {ad0 : Nat → Nat → Nat} {M0 : Mem} {pc : Nat} {ls : List (Option Vl)} {r : List Vl} {M : Mem} {c n : Nat}
theorem okR_row {L : Nat} {M : Mem} {k j t N : Nat} (h : okR M (k, j)) (hk : kd L k = .inr (t, N)) (ht : t ≠ 0) (ht2 : t ≠ 99) : inW M (k, j) := by
  rcases h with h | ⟨-, h | h | h⟩
  · exact h
  · have h : k = kSCR := h
    subst h; rw [kd_scr] at hk; cases hk; exact absurd rfl ht
  · have h : k = kSH := h
    subst h; rw [kd_sh] at hk; cases hk; exact absurd rfl ht
  · have h : k = kSTR := h
    subst h; rw [kd_str] at hk; cases hk; exact absurd rfl ht2
theorem okR_rw {M : Mem} {k j : Nat} (h : okR M (k, j)) (hk : k < kK) : inW M (k, j) := by
  rcases h with h | ⟨-, h | h | h⟩
  · exact h
  · have h : k = kSCR := h
    unfold kSCR at h; unfold kK at hk; omega
  · have h : k = kSH := h
    unfold kSH at h; unfold kK at hk; omega
  · have h : k = kSTR := h
    unfold kSTR at h; unfold kK at hk; omega
/-- behind a store in a row -/
theorem RelW.store {ad : Nat → Nat → Nat} {M' : Mem} {H H1 : Heap} (hR : RelW Ω md ad M H) {k j : Nat} {q0 : Nat} (hq : inW M (k, j)) (hp0 : (nmL M)[q0]? = some (k, j)) (hc' : M'.1 = M.1)
    (hoth : ∀ q, ¬ q = (k, j) → mI M' q.1 q.2 = mI M q.1 q.2 ∧ mJ M' q.1 q.2 = mJ M q.1 q.2 ∧ mR M' q.1 q.2 = mR M q.1 q.2)
    (hr : ∀ a z, mR M' k j a = some z → okR M z) (hs : ∀ a z, sr md k j a = some z → mR M' k j a = z)
    (hP1 : va_P (oD Ω) cl ((wl Ω ad M).set q0 (ad k j, cellOf Ω ad M' k j)) H1) : RelW Ω md ad M' H1 := by
  refine hR.upd hp0 hc' (fun y hy hne => ?_) hP1 (fun k' j' a z hz hz2 => ?_) (fun k' j' a z hz hz2 => ?_) ?_ ?_
  · obtain ⟨e1, e2, e3⟩ := hoth y hne
    unfold cellOf fv
    rw [e1, e2, e3]
  · by_cases hc3 : (k', j') = (k, j)
    · cases hc3
      exact hr a z hz2
    · rw [(hoth (k', j') hc3).2.2] at hz2
      exact hR.2.2.2.1 k' j' a z hz hz2
  · by_cases hc3 : (k', j') = (k, j)
    · cases hc3
      exact hs a z hz2
    · rw [(hoth (k', j') hc3).2.2]
      exact hR.2.2.2.2.1 k' j' a z hz hz2
  · refine (hoth (kSCR, 0) (fun q => ?_)).1
    have := (Prod.mk.inj q).1
    have h5 : k < kK := hq.1
    unfold kSCR at this
    unfold kK at h5
    omega
  · refine (hoth (kSH, 0) (fun q => ?_)).1
    have := (Prod.mk.inj q).1
    have h5 : k < kK := hq.1
    unfold kSH at this
    unfold kK at h5
    omega
theorem zi_iald {k j N : Nat} {x : Int32} (hcx : Cx Ω i p s m meth cf) (hd : decode (mB i) pc = .ok (.iaload, 1)) (hk : kd (oN Ω) k = .inr (0, N)) (hin : vp_in x N) (hn : WW Ω md i p e s m args below meth cf Q ad0 M0 (pc + 1) ls (vI (mI M k j x.toNatClampNeg) :: r) M c n) : WW Ω md i p e s m args below meth cf Q ad0 M0 pc ls (vI x :: vR (some (k, j)) :: r) M c n := by
  intro H locs ad lsR hR hL hLo hs hS hc hn2 hE
  have hlt : x.toNatClampNeg < N := Nat.not_le.mp fun q => hin (Or.inr q)
  have hk2 := hn H locs ad lsR hR hL hLo ⟨VOk_I _ _, hs.2.2⟩ hS hc hn2 hE
  rcases hs.2.1 (k, j) rfl with hq | ⟨hj, hz⟩
  · obtain ⟨q0, -, he⟩ := RelW.pos (Ω := Ω) (ad := ad) hq
    rw [cellOf_row hk] at he
    exact va_iald hcx.1 hcx.2.1 (hcx.K (t := 0) (by decide)) hR.P q0 0 he rfl hin hd hk2
  · have hj : j = 0 := hj
    subst hj
    rcases hz with hz | hz | hz
    · have hz : k = kSCR := hz
      subst hz
      rw [kd_scr] at hk
      cases hk
      obtain ⟨g1, g2, g3, g4, g5⟩ := hR.2.2.2.2.2
      rw [g1] at hk2
      show W p (oL Ω) e (rmM i) s m args below meth cf H locs c n Q (F0 m pc lsR (.int x :: .ref (ad kSCR 0) :: r.map (val ad)))
      rw [g3]
      obtain ⟨h5, h6, h7⟩ := hcx.2.2.2.2.1.2.2.2.2.1
      exact va_sld (A := oA Ω) (H0 := s.heap) hcx.1 hcx.2.1 (h5.kept (hcx.low (by unfold oA; omega))) (Nat.lt_of_lt_of_le h6 hcx.2.2.2.2.2.2.2) (by unfold oA; omega) hS hin hd hk2
    · have hz : k = kSH := hz
      subst hz
      rw [kd_sh] at hk
      cases hk
      obtain ⟨g1, g2, g3, g4, g5⟩ := hR.2.2.2.2.2
      rw [g2] at hk2
      show W p (oL Ω) e (rmM i) s m args below meth cf H locs c n Q (F0 m pc lsR (.int x :: .ref (ad kSH 0) :: r.map (val ad)))
      rw [g4]
      obtain ⟨cell, h1, h2, h3, h4, h5, h6, h7⟩ := hcx.2.2.2.2.1.2.2.2.2.2.1.2
      have h1' : s.heap[oSh Ω]? = some cell := by rw [hcx.low h7]; exact h1
      exact W.iald (v := .int (shT x.toNatClampNeg)) hcx.1 hcx.2.1 (by rw [hS.2.1 (oSh Ω) (Array.getElem?_eq_some_iff.mp h1').1 h7]; exact h1') h2 h3 (fun q => hin (q.imp id (fun q => Nat.le_trans h4 q))) (h6 _ hlt) rfl rfl hd hk2
    · have hz : k = kSTR := hz
      subst hz
      rw [kd_str] at hk
      cases hk
theorem zi_bald {k j N : Nat} {x : Int32} (hcx : Cx Ω i p s m meth cf) (hd : decode (mB i) pc = .ok (.baload, 1)) (hk : kd (oN Ω) k = .inr (1, N)) (hin : vp_in x N) (hn : WW Ω md i p e s m args below meth cf Q ad0 M0 (pc + 1) ls (vI (mI M k j x.toNatClampNeg) :: r) M c n) : WW Ω md i p e s m args below meth cf Q ad0 M0 pc ls (vI x :: vR (some (k, j)) :: r) M c n := by
  intro H locs ad lsR hR hL hLo hs hS hc hn2 hE
  have hk2 := hn H locs ad lsR hR hL hLo ⟨VOk_I _ _, hs.2.2⟩ hS hc hn2 hE
  have hq := okR_row (hs.2.1 (k, j) rfl) hk (by decide) (by decide)
  obtain ⟨q0, -, he⟩ := RelW.pos (Ω := Ω) (ad := ad) hq
  rw [cellOf_row hk] at he
  exact va_bald hcx.1 hcx.2.1 (hcx.K (t := 1) (by decide)) hR.P q0 0 he rfl hin hd hk2
theorem zi_zald {k j N : Nat} {x : Int32} (hcx : Cx Ω i p s m meth cf) (hd : decode (mB i) pc = .ok (.baload, 1)) (hk : kd (oN Ω) k = .inr (2, N)) (hin : vp_in x N) (hn : WW Ω md i p e s m args below meth cf Q ad0 M0 (pc + 1) ls (vI (mI M k j x.toNatClampNeg) :: r) M c n) : WW Ω md i p e s m args below meth cf Q ad0 M0 pc ls (vI x :: vR (some (k, j)) :: r) M c n := by
  intro H locs ad lsR hR hL hLo hs hS hc hn2 hE
  have hk2 := hn H locs ad lsR hR hL hLo ⟨VOk_I _ _, hs.2.2⟩ hS hc hn2 hE
  have hq := okR_row (hs.2.1 (k, j) rfl) hk (by decide) (by decide)
  obtain ⟨q0, -, he⟩ := RelW.pos (Ω := Ω) (ad := ad) hq
  rw [cellOf_row hk] at he
  exact va_zald hcx.1 hcx.2.1 (hcx.K (t := 2) (by decide)) hR.P q0 0 he rfl hin hd hk2
theorem zi_lald {k j N : Nat} {x : Int32} (hcx : Cx Ω i p s m meth cf) (hd : decode (mB i) pc = .ok (.laload, 1)) (hk : kd (oN Ω) k = .inr (3, N)) (hin : vp_in x N) (hn : WW Ω md i p e s m args below meth cf Q ad0 M0 (pc + 1) ls (vJ (mJ M k j x.toNatClampNeg) :: r) M c n) : WW Ω md i p e s m args below meth cf Q ad0 M0 pc ls (vI x :: vR (some (k, j)) :: r) M c n := by
  intro H locs ad lsR hR hL hLo hs hS hc hn2 hE
  have hk2 := hn H locs ad lsR hR hL hLo ⟨VOk_J _ _, hs.2.2⟩ hS hc hn2 hE
  have hq := okR_row (hs.2.1 (k, j) rfl) hk (by decide) (by decide)
  obtain ⟨q0, -, he⟩ := RelW.pos (Ω := Ω) (ad := ad) hq
  rw [cellOf_row hk] at he
  exact va_lald hcx.1 hcx.2.1 (hcx.K (t := 3) (by decide)) hR.P q0 0 he rfl hin hd hk2
theorem zz_tagT {t : Nat} (ht : 10 ≤ t) : tagT t = .object (clR (t - 10)) := by
  match t, ht with
  | 0, h => exact absurd h (by omega)
  | 1, h => exact absurd h (by omega)
  | 2, h => exact absurd h (by omega)
  | 3, h => exact absurd h (by omega)
  | n + 4, h => rfl
theorem zi_aald {k j t N : Nat} {x : Int32} (hcx : Cx Ω i p s m meth cf) (hd : decode (mB i) pc = .ok (.aaload, 1)) (hk : kd (oN Ω) k = .inr (t, N)) (ht : 10 ≤ t ∧ t ≤ 22) (hin : vp_in x N) (hn : WW Ω md i p e s m args below meth cf Q ad0 M0 (pc + 1) ls (vR (rR md M k j x.toNatClampNeg) :: r) M c n) : WW Ω md i p e s m args below meth cf Q ad0 M0 pc ls (vI x :: vR (some (k, j)) :: r) M c n := by
  intro H locs ad lsR hR hL hLo hs hS hc hn2 hE
  have hq := okR_row (hs.2.1 (k, j) rfl) hk (by omega) (by omega)
  obtain ⟨q0, -, he⟩ := RelW.pos (Ω := Ω) (ad := ad) hq
  rw [cellOf_row hk, if_neg (by omega), if_pos ht.1] at he
  have hk2 := hn H locs ad lsR hR hL hLo ⟨fun q h => hR.2.2.2.1 k j x.toNatClampNeg q hq (by rw [rR_eq hR hq] at h; simpa [vR] using h), hs.2.2⟩ hS hc hn2 hE
  rw [rR_eq hR hq] at hk2
  have hK := hcx.K (kd_row hq.1 hk).1
  rw [zz_tagT ht.1] at hK
  exact va_aldq hcx.1 hcx.2.1 hK hR.P q0 0 he rfl hin hd hk2
theorem zi_iast {k j N : Nat} {x : Int32} {y : Int32} (hcx : Cx Ω i p s m meth cf) (hd : decode (mB i) pc = .ok (.iastore, 1)) (hk : kd (oN Ω) k = .inr (0, N)) (hkK : k < kK) (hin : vp_in x N) (hn : WW Ω md i p e s m args below meth cf Q ad0 M0 (pc + 1) ls r (sI M k j x.toNatClampNeg y) c n) : WW Ω md i p e s m args below meth cf Q ad0 M0 pc ls (vI y :: vI x :: vR (some (k, j)) :: r) M c n := by
  intro H locs ad lsR hR hL hLo hs hS hc hn2 hE
  have hq := okR_rw (hs.2.2.1 (k, j) rfl) hkK
  obtain ⟨q0, hp0, he⟩ := RelW.pos (Ω := Ω) (ad := ad) hq
  rw [cellOf_row hk] at he
  refine va_iast hcx.1 hcx.2.1 (hcx.K (t := 0) (by decide)) hR.P hR.D hS q0 0 he rfl hin hd (fun H1 locs1 hP1 hD1 hS1 => ?_)
  refine hn H1 locs1 ad lsR (hR.store (M' := sI M k j x.toNatClampNeg y) hq hp0 rfl (fun q h => ⟨?_, rfl, rfl⟩) (fun a z hz => hR.2.2.2.1 k j a z hq hz) (fun a z hz => hR.2.2.2.2.1 k j a z hq hz) ?_) hL (LOk_same (M := M) (M' := sI M k j x.toNatClampNeg y) rfl hLo) (SOk_same (M := M) (M' := sI M k j x.toNatClampNeg y) rfl hs.2.2.2) hS1 hc hn2 (hE.same rfl)
  · funext a
    unfold mI sI
    show (if q.1 = k ∧ q.2 = j ∧ a = x.toNatClampNeg then _ else _) = _
    rw [if_neg]
    intro h2
    exact h (Prod.ext h2.1 h2.2.1)
  · rw [cellOf_row hk]
    have hz : mI (sI M k j x.toNatClampNeg y) k j = upd (mI M k j) x.toNatClampNeg (y) := by
      funext a
      unfold mI sI upd
      by_cases ha : a = x.toNatClampNeg
      · simp [ha]
      · simp [ha]
    rw [hz]
    exact hP1
theorem zi_bast {k j N : Nat} {x : Int32} {y : Int32} (hcx : Cx Ω i p s m meth cf) (hd : decode (mB i) pc = .ok (.bastore, 1)) (hk : kd (oN Ω) k = .inr (1, N)) (hkK : k < kK) (hin : vp_in x N) (hn : WW Ω md i p e s m args below meth cf Q ad0 M0 (pc + 1) ls r (sI M k j x.toNatClampNeg y.toInt8.toInt32) c n) : WW Ω md i p e s m args below meth cf Q ad0 M0 pc ls (vI y :: vI x :: vR (some (k, j)) :: r) M c n := by
  intro H locs ad lsR hR hL hLo hs hS hc hn2 hE
  have hq := okR_rw (hs.2.2.1 (k, j) rfl) hkK
  obtain ⟨q0, hp0, he⟩ := RelW.pos (Ω := Ω) (ad := ad) hq
  rw [cellOf_row hk] at he
  refine va_bast hcx.1 hcx.2.1 (hcx.K (t := 1) (by decide)) hR.P hR.D hS q0 0 he rfl hin hd (fun H1 locs1 hP1 hD1 hS1 => ?_)
  refine hn H1 locs1 ad lsR (hR.store (M' := sI M k j x.toNatClampNeg y.toInt8.toInt32) hq hp0 rfl (fun q h => ⟨?_, rfl, rfl⟩) (fun a z hz => hR.2.2.2.1 k j a z hq hz) (fun a z hz => hR.2.2.2.2.1 k j a z hq hz) ?_) hL (LOk_same (M := M) (M' := sI M k j x.toNatClampNeg y.toInt8.toInt32) rfl hLo) (SOk_same (M := M) (M' := sI M k j x.toNatClampNeg y.toInt8.toInt32) rfl hs.2.2.2) hS1 hc hn2 (hE.same rfl)
  · funext a
    unfold mI sI
    show (if q.1 = k ∧ q.2 = j ∧ a = x.toNatClampNeg then _ else _) = _
    rw [if_neg]
    intro h2
    exact h (Prod.ext h2.1 h2.2.1)
  · rw [cellOf_row hk]
    have hz : mI (sI M k j x.toNatClampNeg y.toInt8.toInt32) k j = upd (mI M k j) x.toNatClampNeg (y.toInt8.toInt32) := by
      funext a
      unfold mI sI upd
      by_cases ha : a = x.toNatClampNeg
      · simp [ha]
      · simp [ha]
    rw [hz]
    exact hP1
theorem zi_zast {k j N : Nat} {x : Int32} {y : Int32} (hcx : Cx Ω i p s m meth cf) (hd : decode (mB i) pc = .ok (.bastore, 1)) (hk : kd (oN Ω) k = .inr (2, N)) (hkK : k < kK) (hin : vp_in x N) (hb : y = 0 ∨ y = 1) (hn : WW Ω md i p e s m args below meth cf Q ad0 M0 (pc + 1) ls r (sI M k j x.toNatClampNeg y) c n) : WW Ω md i p e s m args below meth cf Q ad0 M0 pc ls (vI y :: vI x :: vR (some (k, j)) :: r) M c n := by
  intro H locs ad lsR hR hL hLo hs hS hc hn2 hE
  have hq := okR_rw (hs.2.2.1 (k, j) rfl) hkK
  obtain ⟨q0, hp0, he⟩ := RelW.pos (Ω := Ω) (ad := ad) hq
  rw [cellOf_row hk] at he
  refine va_zast hcx.1 hcx.2.1 (hcx.K (t := 2) (by decide)) hR.P hR.D hS q0 0 he rfl hin hd (fun H1 locs1 hP1 hD1 hS1 => ?_)
  refine hn H1 locs1 ad lsR (hR.store (M' := sI M k j x.toNatClampNeg y) hq hp0 rfl (fun q h => ⟨?_, rfl, rfl⟩) (fun a z hz => hR.2.2.2.1 k j a z hq hz) (fun a z hz => hR.2.2.2.2.1 k j a z hq hz) ?_) hL (LOk_same (M := M) (M' := sI M k j x.toNatClampNeg y) rfl hLo) (SOk_same (M := M) (M' := sI M k j x.toNatClampNeg y) rfl hs.2.2.2) hS1 hc hn2 (hE.same rfl)
  · funext a
    unfold mI sI
    show (if q.1 = k ∧ q.2 = j ∧ a = x.toNatClampNeg then _ else _) = _
    rw [if_neg]
    intro h2
    exact h (Prod.ext h2.1 h2.2.1)
  · rw [cellOf_row hk]
    have hnb : vp_nar .boolean y = y := by rcases hb with rfl | rfl <;> rfl
    rw [hnb] at hP1
    have hz : mI (sI M k j x.toNatClampNeg y) k j = upd (mI M k j) x.toNatClampNeg (y) := by
      funext a
      unfold mI sI upd
      by_cases ha : a = x.toNatClampNeg
      · simp [ha]
      · simp [ha]
    rw [hz]
    exact hP1
theorem zi_last {k j N : Nat} {x : Int32} {y : Int64} (hcx : Cx Ω i p s m meth cf) (hd : decode (mB i) pc = .ok (.lastore, 1)) (hk : kd (oN Ω) k = .inr (3, N)) (hkK : k < kK) (hin : vp_in x N) (hn : WW Ω md i p e s m args below meth cf Q ad0 M0 (pc + 1) ls r (sJ M k j x.toNatClampNeg y) c n) : WW Ω md i p e s m args below meth cf Q ad0 M0 pc ls (vJ y :: vI x :: vR (some (k, j)) :: r) M c n := by
  intro H locs ad lsR hR hL hLo hs hS hc hn2 hE
  have hq := okR_rw (hs.2.2.1 (k, j) rfl) hkK
  obtain ⟨q0, hp0, he⟩ := RelW.pos (Ω := Ω) (ad := ad) hq
  rw [cellOf_row hk] at he
  refine va_last hcx.1 hcx.2.1 (hcx.K (t := 3) (by decide)) hR.P hR.D hS q0 0 he rfl hin hd (fun H1 locs1 hP1 hD1 hS1 => ?_)
  refine hn H1 locs1 ad lsR (hR.store (M' := sJ M k j x.toNatClampNeg y) hq hp0 rfl (fun q h => ⟨rfl, ?_, rfl⟩) (fun a z hz => hR.2.2.2.1 k j a z hq hz) (fun a z hz => hR.2.2.2.2.1 k j a z hq hz) ?_) hL (LOk_same (M := M) (M' := sJ M k j x.toNatClampNeg y) rfl hLo) (SOk_same (M := M) (M' := sJ M k j x.toNatClampNeg y) rfl hs.2.2.2) hS1 hc hn2 (hE.same rfl)
  · funext a
    unfold mJ sJ
    show (if q.1 = k ∧ q.2 = j ∧ a = x.toNatClampNeg then _ else _) = _
    rw [if_neg]
    intro h2
    exact h (Prod.ext h2.1 h2.2.1)
  · rw [cellOf_row hk]
    have hz : mJ (sJ M k j x.toNatClampNeg y) k j = vp_updL (mJ M k j) x.toNatClampNeg (y) := by
      funext a
      unfold mJ sJ vp_updL
      by_cases ha : a = x.toNatClampNeg
      · simp [ha]
      · simp [ha]
    rw [hz]
    exact hP1
theorem zi_aast {k j k1 j1 t N : Nat} {x : Int32} (hcx : Cx Ω i p s m meth cf) (hd : decode (mB i) pc = .ok (.aastore, 1)) (hk : kd (oN Ω) k = .inr (t, N)) (hk1 : kd (oN Ω) k1 = .inl (t - 10)) (ht : 10 ≤ t ∧ t ≤ 22) (hin : vp_in x N) (hsr : sr md k j x.toNatClampNeg = none) (hn : WW Ω md i p e s m args below meth cf Q ad0 M0 (pc + 1) ls r (sR M k j x.toNatClampNeg (some (k1, j1))) c n) : WW Ω md i p e s m args below meth cf Q ad0 M0 pc ls (vR (some (k1, j1)) :: vI x :: vR (some (k, j)) :: r) M c n := by
  intro H locs ad lsR hR hL hLo hs hS hc hn2 hE
  have hq := okR_row (hs.2.2.1 (k, j) rfl) hk (by omega) (by omega)
  have hq1 := okR_obj (hs.1 (k1, j1) rfl) hk1
  obtain ⟨q0, hp0, he⟩ := RelW.pos (Ω := Ω) (ad := ad) hq
  obtain ⟨q1, -, he1⟩ := RelW.pos (Ω := Ω) (ad := ad) hq1
  rw [cellOf_row hk, if_neg (by omega), if_pos ht.1] at he
  rw [cellOf_obj hk1] at he1
  have hK := hcx.K (kd_row hq.1 hk).1
  rw [zz_tagT ht.1] at hK
  refine va_astq (r := (clR (t - 10), clF (t - 10), clN (t - 10))) hcx.1 hcx.2.1 hK hR.P hR.D hS q0 0 q1 (t - 10) he rfl he1 (zz_cl _ (kd_obj hq1.1 hk1)) hin hd (fun H1 locs1 hP1 hD1 hS1 => ?_)
  have hset : ∀ a, mR (sR M k j x.toNatClampNeg (some (k1, j1))) k j a = if a = x.toNatClampNeg then some (k1, j1) else mR M k j a := fun a => by
    unfold mR sR
    by_cases ha : a = x.toNatClampNeg
    · simp [ha]
    · simp [ha]
  refine hn H1 locs1 ad lsR (hR.store (M' := sR M k j x.toNatClampNeg (some (k1, j1))) hq hp0 rfl (fun q h => ⟨rfl, rfl, ?_⟩) (fun a z hz => ?_) (fun a z hz => ?_) ?_) hL (LOk_same (M := M) (M' := sR M k j x.toNatClampNeg (some (k1, j1))) rfl hLo) (SOk_same (M := M) (M' := sR M k j x.toNatClampNeg (some (k1, j1))) rfl hs.2.2.2) hS1 hc hn2 (hE.same rfl)
  · funext a
    unfold mR sR
    show (if q.1 = k ∧ q.2 = j ∧ a = x.toNatClampNeg then _ else _) = _
    rw [if_neg]
    intro h2
    exact h (Prod.ext h2.1 h2.2.1)
  · rw [hset] at hz
    split at hz
    · cases hz; exact Or.inl hq1
    · exact hR.2.2.2.1 k j a z hq hz
  · rw [hset]
    split
    next ha => subst ha; rw [hsr] at hz; cases hz
    next => exact hR.2.2.2.2.1 k j a z hq hz
  · rw [cellOf_row hk, if_neg (by omega), if_pos ht.1]
    have hz : (fun a => (mR (sR M k j x.toNatClampNeg (some (k1, j1))) k j a).map (fun q => ad q.1 q.2)) = va_up (fun a => (mR M k j a).map (fun q => ad q.1 q.2)) x.toNatClampNeg (some (ad k1 j1)) := by
      funext a
      rw [hset]
      unfold va_up
      split <;> rfl
    rw [hz]
    exact hP1
theorem zi_alen {k j t N : Nat} (hcx : Cx Ω i p s m meth cf) (hd : decode (mB i) pc = .ok (.arraylength, 1)) (hk : kd (oN Ω) k = .inr (t, N)) (ht : t ≤ 22) (hn : WW Ω md i p e s m args below meth cf Q ad0 M0 (pc + 1) ls (vI (Int32.ofNat N) :: r) M c n) : WW Ω md i p e s m args below meth cf Q ad0 M0 pc ls (vR (some (k, j)) :: r) M c n := by
  intro H locs ad lsR hR hL hLo hs hS hc hn2 hE
  have hk2 := hn H locs ad lsR hR hL hLo ⟨VOk_I _ _, hs.2⟩ hS hc hn2 hE
  rcases hs.1 (k, j) rfl with hq | ⟨hj, hz⟩
  · obtain ⟨q0, -, he⟩ := RelW.pos (Ω := Ω) (ad := ad) hq
    rw [cellOf_row hk] at he
    exact va_alen hcx.1 hcx.2.1 (hcx.K (kd_row hq.1 hk).1) hR.P q0 0 he rfl rfl hd hk2
  · have hj : j = 0 := hj
    subst hj
    rcases hz with hz | hz | hz
    · have hz : k = kSCR := hz
      subst hz
      rw [kd_scr] at hk
      cases hk
      obtain ⟨g1, g2, g3, g4, g5⟩ := hR.2.2.2.2.2
      show W p (oL Ω) e (rmM i) s m args below meth cf H locs c n Q (F0 m pc lsR (.ref (ad kSCR 0) :: r.map (val ad)))
      rw [g3]
      obtain ⟨h5, h6, h7⟩ := hcx.2.2.2.2.1.2.2.2.2.1
      exact va_slen (A := oA Ω) (H0 := s.heap) hcx.1 hcx.2.1 (h5.kept (hcx.low (by unfold oA; omega))) (Nat.lt_of_lt_of_le h6 hcx.2.2.2.2.2.2.2) (by unfold oA; omega) hS hd hk2
    · have hz : k = kSH := hz
      subst hz
      rw [kd_sh] at hk
      cases hk
      obtain ⟨g1, g2, g3, g4, g5⟩ := hR.2.2.2.2.2
      show W p (oL Ω) e (rmM i) s m args below meth cf H locs c n Q (F0 m pc lsR (.ref (ad kSH 0) :: r.map (val ad)))
      rw [g4]
      obtain ⟨cell, h1, h2, h3, h4, h5, h6, h7⟩ := hcx.2.2.2.2.1.2.2.2.2.2.1.2
      have h1' : s.heap[oSh Ω]? = some cell := by rw [hcx.low h7]; exact h1
      exact W.alen (n := Int32.ofNat 10) hcx.1 hcx.2.1 (by rw [hS.2.1 (oSh Ω) (Array.getElem?_eq_some_iff.mp h1').1 h7]; exact h1') h2 h5 rfl rfl hd hk2
    · have hz : k = kSTR := hz
      subst hz
      rw [kd_str] at hk
      cases hk
      omega
theorem zi_gets {x : Nat} (hcx : Cx Ω i p s m meth cf) (hd : decode (mB i) pc = .ok (.getstatic x, 3)) (hw : Cond.fieldLink (ownR (mOw i)) x "WingHouse$Solver" "SHARES" "[I" ∈ gw) (hn : WW Ω md i p e s m args below meth cf Q ad0 M0 (pc + 3) ls (vR (some (kSH, 0)) :: r) M c n) : WW Ω md i p e s m args below meth cf Q ad0 M0 pc ls r M c n := by
  intro H locs ad lsR hR hL hLo hs hS hc hn2 hE
  obtain ⟨g1, g2, g3, g4, g5⟩ := hR.2.2.2.2.2
  have hk2 := hn H locs ad lsR hR hL hLo ⟨fun q h => by cases h; exact Or.inr ⟨rfl, Or.inr (Or.inl rfl)⟩, hs⟩ hS hc hn2 hE
  have hk3 : W p (oL Ω) e (rmM i) s m args below meth cf H locs c n Q (F0 m (pc + 3) lsR (.ref (ad kSH 0) :: r.map (val ad))) := hk2
  rw [g4] at hk3
  exact va_gets (A := oA Ω) hcx.1 hcx.2.1 (hcx.2.2.2.2.1.2.2.2.2.2.1.1.kept (fun a _ h2 => hcx.low h2)) hS hcx.2.2.2.1 (hcx.hts args _ hw) (fun x h => h) hd hk3
theorem zi_copy {x k1 j1 N1 k2 j2 N2 : Nat} {sp dp len : Int32} (hcx : Cx Ω i p s m meth cf) (hd : decode (mB i) pc = .ok (.invokestatic x, 3)) (hw : Cond.methodLink (ownR (mOw i)) x arraycopyName ∈ gw) (hw2 : Cond.native arraycopyName ∈ gw ∧ Cond.static arraycopyName ∈ gw ∧ Cond.initialized "java/lang/System" ∈ gw) (hk1 : kd (oN Ω) k1 = .inr (3, N1)) (hk2 : kd (oN Ω) k2 = .inr (3, N2))
    (h1 : ¬ sp < 0) (h2 : ¬ dp < 0) (h3 : ¬ len < 0) (h4 : sp.toNatClampNeg + len.toNatClampNeg ≤ N1) (h5 : dp.toNatClampNeg + len.toNatClampNeg ≤ N2) (hf : 1 ≤ (rmM i).frames) (hl : 8 + (nativeFrameWords "java/lang/System" "arraycopy" 5 + 11) ≤ (rmM i).locals) (hr8 : cS r ≤ 8)
    (hn : WW Ω md i p e s m args below meth cf Q ad0 M0 (pc + 3) ls r (sCpJ M k1 j1 k2 j2 sp.toNatClampNeg dp.toNatClampNeg len.toNatClampNeg) c n) : WW Ω md i p e s m args below meth cf Q ad0 M0 pc ls (vI len :: vI dp :: vR (some (k2, j2)) :: vI sp :: vR (some (k1, j1)) :: r) M c n := by
  intro H locs ad lsR hR hL hLo hs hS hc hn2 hE
  have hq1 := okR_row (hs.2.2.2.2.1 (k1, j1) rfl) hk1 (by decide) (by decide)
  have hq2 := okR_row (hs.2.2.1 (k2, j2) rfl) hk2 (by decide) (by decide)
  obtain ⟨q1, hp1, he1⟩ := RelW.pos (Ω := Ω) (ad := ad) hq1
  obtain ⟨q2, hp2, he2⟩ := RelW.pos (Ω := Ω) (ad := ad) hq2
  rw [cellOf_row hk1] at he1
  rw [cellOf_row hk2] at he2
  have hcat : ((r.map (val ad)).map fun v => v.category).sum = cS r := by
    clear hs hn
    induction r with
    | nil => rfl
    | cons a r ih =>
      have ih := ih (by
        rcases a with a | a | a
        · show cS r ≤ 8; have : 1 + cS r ≤ 8 := hr8; omega
        · show cS r ≤ 8; have : 2 + cS r ≤ 8 := hr8; omega
        · show cS r ≤ 8; have : 1 + cS r ≤ 8 := hr8; omega)
      rw [List.map_cons, List.map_cons, List.sum_cons, ih, zz_cat]
      rcases a with a | a | a <;> rfl
  refine va_copyl hcx.1 hcx.2.1 (hcx.2.2.1.trans hL.1.symm) hcx.2.2.2.1 (hcx.hts args _ hw) (hcx.hts args _ hw2.1) (hcx.hts args _ hw2.2.1) (hcx.hts args _ hw2.2.2) (hcx.K (t := 3) (by decide)) hR.P hR.D hS q1 q2 0 0 he1 he2 rfl rfl rfl h1 h2 h3 h4 h5 (fun i _ => rfl) hf (by rw [hcat]; omega) hd (fun H1 locs1 hP1 hD1 hS1 => ?_)
  have hM1 : (sCpJ M k1 j1 k2 j2 sp.toNatClampNeg dp.toNatClampNeg len.toNatClampNeg).1 = M.1 := rfl
  refine hn H1 locs1 ad lsR (hR.store (M' := sCpJ M k1 j1 k2 j2 sp.toNatClampNeg dp.toNatClampNeg len.toNatClampNeg) hq2 hp2 rfl (fun q h => ⟨rfl, ?_, rfl⟩) (fun a z hz => hR.2.2.2.1 k2 j2 a z hq2 hz) (fun a z hz => hR.2.2.2.2.1 k2 j2 a z hq2 hz) ?_) hL (LOk_same hM1 hLo) (SOk_same hM1 hs.2.2.2.2.2) hS1 hc hn2 (hE.same hM1)
  · funext a
    unfold mJ sCpJ
    show (if q.1 = k2 ∧ q.2 = j2 then (_ : Nat → Int64) else _) a = _
    rw [if_neg]
    intro h2
    exact h (Prod.ext h2.1 h2.2)
  · rw [cellOf_row hk2]
    have hz : mJ (sCpJ M k1 j1 k2 j2 sp.toNatClampNeg dp.toNatClampNeg len.toNatClampNeg) k2 j2 = va_cpy (mJ M k1 j1) (mJ M k2 j2) sp.toNatClampNeg dp.toNatClampNeg len.toNatClampNeg := by
      funext a
      unfold mJ sCpJ
      simp
    rw [hz]
    exact hP1
end INR
