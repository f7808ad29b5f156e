/-! EACH INSTRUCTION, V: new cells -/
section INN
variable {Ω : Om} {md : Bool} {i : Nat} {p : Program} {e : Env} {s : State} {m : MethodId} {args : Array Value} {below : List Frame} {meth : Method} {cf : Code} {Q : State → Prop} {ad0 : Nat → Nat → Nat} {M0 : Mem} {pc : Nat} {ls : List (Option Vl)} {r : List Vl} {M : Mem} {c n : Nat}
/-- two ways of addresses agree on what is there -/
def AE (M : Mem) (ad ad' : Nat → Nat → Nat) : Prop := ∀ q, okR M q → ad' q.1 q.2 = ad q.1 q.2
theorem rv_ext {ad ad' : Nat → Nat → Nat} {M : Mem} (h : AE M ad ad') {x : Rf} (hx : ∀ q, x = some q → okR M q) : x.map (fun q => ad' q.1 q.2) = x.map (fun q => ad q.1 q.2) := by
  cases x with
  | none => rfl
  | some q => exact congrArg some (h q (hx q rfl))
theorem val_ext {ad ad' : Nat → Nat → Nat} {M : Mem} (h : AE M ad ad') {v : Vl} (hv : VOk M v) : val ad' v = val ad v := by
  rcases v with x | x | x
  · rfl
  · rfl
  · show rv ad' x = rv ad x
    unfold rv
    rw [rv_ext h (fun q hq => hv q (by rw [hq]))]
theorem map_ext {ad ad' : Nat → Nat → Nat} {M : Mem} (h : AE M ad ad') {st : List Vl} (hv : SOk M st) : st.map (val ad') = st.map (val ad) := List.map_congr_left fun v hm => val_ext h (hv.mem v hm)
theorem LRel.ext {ad ad' : Nat → Nat → Nat} {M : Mem} (h : AE M ad ad') {ls : List (Option Vl)} {lsR : Array Slot} {n : Nat} (hv : LOk M ls) (hL : LRel ad ls lsR n) : LRel ad' ls lsR n := ⟨hL.1, hL.2.1, fun k v hk => by rw [val_ext h (hv k v hk)]; exact hL.2.2 k v hk⟩
theorem okR.mono {M M' : Mem} (h : ∀ k, mC M k ≤ mC M' k) {q : Nat × Nat} (hq : okR M q) : okR M' q := hq.imp (fun h2 => ⟨h2.1, Nat.lt_of_lt_of_le h2.2 (h _)⟩) id
theorem VOk.mono {M M' : Mem} (h : ∀ k, mC M k ≤ mC M' k) {v : Vl} (hv : VOk M v) : VOk M' v := fun q hq => (hv q hq).mono h
theorem SOk.mono {M M' : Mem} (h : ∀ k, mC M k ≤ mC M' k) {st : List Vl} (hv : SOk M st) : SOk M' st := SOk.of fun v hm => (hv.mem v hm).mono h
theorem LOk.mono {M M' : Mem} (h : ∀ k, mC M k ≤ mC M' k) {ls : List (Option Vl)} (hv : LOk M ls) : LOk M' ls := fun k v hk => (hv k v hk).mono h
theorem Ext.AE {ad ad' : Nat → Nat → Nat} {M M' : Mem} (h : Ext ad M ad' M') : AE M ad ad' := h.2
theorem Ext.trans {ad0 ad ad' : Nat → Nat → Nat} {M0 M M' : Mem} (h : Ext ad0 M0 ad M) (h' : Ext ad M ad' M') : Ext ad0 M0 ad' M' := ⟨fun k => Nat.le_trans (h.1 k) (h'.1 k), fun q hq => (h'.2 q (hq.mono h.1)).trans (h.2 q hq)⟩
def adN (ad : Nat → Nat → Nat) (M : Mem) (k q : Nat) : Nat → Nat → Nat := fun k' i' => if k' = k ∧ i' = mC M k then q else ad k' i'
theorem adN_self (ad : Nat → Nat → Nat) (M : Mem) (k q : Nat) : adN ad M k q k (mC M k) = q := by simp [adN]
theorem mC_new (M : Mem) (k k' : Nat) : mC (sNew M k) k' = if k' = k then mC M k + 1 else mC M k' := rfl
theorem mC_newle (M : Mem) (k : Nat) : ∀ k', mC M k' ≤ mC (sNew M k) k' := fun k' => by
  rw [mC_new]
  split
  next h => subst h; omega
  next => exact Nat.le_refl _
theorem inW_new {M : Mem} {k : Nat} {y : Nat × Nat} (hk : k < kK) : inW (sNew M k) y ↔ inW M y ∨ y = (k, mC M k) := by
  unfold inW
  rw [mC_new]
  constructor
  · rintro ⟨h1, h2⟩
    split at h2
    next hy =>
      by_cases h3 : y.2 < mC M y.1
      · exact Or.inl ⟨h1, h3⟩
      · exact Or.inr (Prod.ext hy (by rw [hy] at h3; show y.2 = mC M k; omega))
    next hy => exact Or.inl ⟨h1, h2⟩
  · rintro (⟨h1, h2⟩ | rfl)
    · refine ⟨h1, ?_⟩
      split
      next hy => rw [hy] at h2; omega
      next => exact h2
    · refine ⟨hk, ?_⟩
      simp
theorem new_ne {M : Mem} {k : Nat} {y : Nat × Nat} (hk : k < kK) (h : okR M y) : ¬ (y.1 = k ∧ y.2 = mC M k) := by
  rintro ⟨h1, h2⟩
  rcases h with h | ⟨-, h⟩
  · have := h.2
    rw [h1] at this
    omega
  · unfold kSCR kSH kSTR at h
    unfold kK at hk
    omega
theorem AE_new {ad : Nat → Nat → Nat} {M : Mem} {k q : Nat} (hk : k < kK) : AE M ad (adN ad M k q) := fun y hy => by
  unfold adN
  rw [if_neg (new_ne hk hy)]
theorem RelW.grow {ad : Nat → Nat → Nat} {H H1 : Heap} (hR : RelW Ω false ad M H) {k q : Nat} (hk : k < kK) (hP : va_P (oD Ω) cl (wl Ω ad M ++ [(q, cellOf Ω (adN ad M k q) (sNew M k) k (mC M k))]) H1) (hD : va_D (oA Ω) (wl Ω ad M ++ [(q, cellOf Ω (adN ad M k q) (sNew M k) k (mC M k))])) : RelW Ω false (adN ad M k q) (sNew M k) H1 := by
  have hold : ∀ y, inW M y → mI (sNew M k) y.1 y.2 = mI M y.1 y.2 ∧ mJ (sNew M k) y.1 y.2 = mJ M y.1 y.2 ∧ mR (sNew M k) y.1 y.2 = mR M y.1 y.2 := by
    intro y hy
    have hne : ¬ (y.1 = k ∧ y.2 = M.1 k) := new_ne hk (Or.inl hy)
    refine ⟨funext fun a => ?_, funext fun a => ?_, funext fun a => ?_⟩
    · show (if y.1 = k ∧ y.2 = M.1 k then _ else _) = _
      rw [if_neg hne]; rfl
    · show (if y.1 = k ∧ y.2 = M.1 k then _ else _) = _
      rw [if_neg hne]; rfl
    · show (if y.1 = k ∧ y.2 = M.1 k then _ else _) = _
      rw [if_neg hne]; rfl
  have hcell : ∀ y, inW M y → cellOf Ω (adN ad M k q) (sNew M k) y.1 y.2 = cellOf Ω ad M y.1 y.2 := by
    intro y hy
    obtain ⟨e1, e2, e3⟩ := hold y hy
    have hz : ∀ a, (mR M y.1 y.2 a).map (fun z => adN ad M k q z.1 z.2) = (mR M y.1 y.2 a).map (fun z => ad z.1 z.2) := fun a => rv_ext (AE_new hk) (fun z hz => hR.2.2.2.1 y.1 y.2 a z hy hz)
    unfold cellOf fv rv
    rw [e1, e2, e3]
    simp only [hz]
  have hadr : ∀ y, inW M y → adN ad M k q y.1 y.2 = ad y.1 y.2 := fun y hy => AE_new hk y (Or.inl hy)
  have hpos : ∀ y, inW M y → ∃ p : Nat, p < (wl Ω ad M).length ∧ (wl Ω ad M ++ [(q, cellOf Ω (adN ad M k q) (sNew M k) k (mC M k))])[p]? = some (ad y.1 y.2, cellOf Ω ad M y.1 y.2) := by
    intro y hy
    obtain ⟨p, -, hp⟩ := RelW.pos (Ω := Ω) (ad := ad) hy
    have hl := (List.getElem?_eq_some_iff.mp hp).1
    exact ⟨p, hl, by rw [List.getElem?_append_left hl]; exact hp⟩
  have hlast : (wl Ω ad M ++ [(q, cellOf Ω (adN ad M k q) (sNew M k) k (mC M k))])[(wl Ω ad M).length]? = some (q, cellOf Ω (adN ad M k q) (sNew M k) k (mC M k)) := by simp
  refine ⟨fun y hy => ?_, fun y z hy hz he => ?_, fun y hy => ?_, fun k' j' a z hy hz => ?_, fun k' j' a z hy hz => (by cases hz), ?_⟩
  · rcases (inW_new hk).mp hy with hy | rfl
    · obtain ⟨p, -, hp⟩ := hpos y hy
      rw [hadr y hy, hcell y hy]
      exact hP p _ hp
    · rw [adN_self]
      exact hP _ _ hlast
  · rcases (inW_new hk).mp hy with hy | rfl
    · rcases (inW_new hk).mp hz with hz | rfl
      · rw [hadr y hy, hadr z hz] at he
        exact hR.2.1 y z hy hz he
      · rw [hadr y hy, adN_self] at he
        obtain ⟨p, hpl, hp⟩ := hpos y hy
        have := hD.1 p _ _ _ hp hlast he
        omega
    · rcases (inW_new hk).mp hz with hz | rfl
      · rw [hadr z hz, adN_self] at he
        obtain ⟨p, hpl, hp⟩ := hpos z hz
        have := hD.1 p _ _ _ hp hlast he.symm
        omega
      · rfl
  · rcases (inW_new hk).mp hy with hy | rfl
    · rw [hadr y hy]
      exact hR.2.2.1 y hy
    · rw [adN_self]
      exact hD.2 _ _ hlast
  · rcases (inW_new hk).mp hy with hy | hy
    · have e3 := congrFun (hold (k', j') hy).2.2 a
      rw [e3] at hz
      exact (hR.2.2.2.1 k' j' a z hy hz).mono (mC_newle M k)
    · cases hy
      have hz2 : (if k = k ∧ mC M k = M.1 k then none else mR M k (mC M k) a) = some z := hz
      rw [if_pos ⟨rfl, rfl⟩] at hz2
      cases hz2
  · obtain ⟨g1, g2, g3, g4, g5⟩ := hR.2.2.2.2.2
    have hne : ∀ x, kK ≤ x → ¬ x = k := fun x hx e => by omega
    refine ⟨?_, ?_, ?_, ?_, ?_⟩
    · rw [← g1]
      funext a
      show (if kSCR = k ∧ 0 = M.1 k then _ else _) = _
      rw [if_neg (fun e => hne kSCR (by decide) e.1)]; rfl
    · rw [← g2]
      funext a
      show (if kSH = k ∧ 0 = M.1 k then _ else _) = _
      rw [if_neg (fun e => hne kSH (by decide) e.1)]; rfl
    · rw [← g3]; unfold adN; rw [if_neg (fun e => hne kSCR (by decide) e.1)]
    · rw [← g4]; unfold adN; rw [if_neg (fun e => hne kSH (by decide) e.1)]
    · rw [← g5]; unfold adN; rw [if_neg (fun e => hne kSTR (by decide) e.1)]
theorem va_RA_inj {U : State} {c1 c2 : ClassId} {ty : FieldType} (h1 : va_RA U c1 ty) (h2 : va_RA U c2 ty) : c1 = c2 := by
  cases ty with
  | object C =>
    obtain ⟨_, _, _, _, _, g1⟩ := h1
    obtain ⟨_, _, _, _, _, g2⟩ := h2
    exact Option.some.inj (g1.symm.trans g2)
  | _ => exact Option.some.inj (Eq.symm (h1 : _ = some c1) |>.trans h2)
theorem zz_nI {N : Nat} (h : N ≤ 3000) : ¬ Int32.ofNat N < 0 ∧ (Int32.ofNat N).toNatClampNeg = N := ⟨nI_pos (n := N) (by omega), nI_clamp (n := N) (by omega)⟩
theorem new_mI (M : Mem) (k : Nat) : mI (sNew M k) k (mC M k) = fun _ => 0 := by
  funext a
  show (if k = k ∧ mC M k = M.1 k then _ else _) = _
  rw [if_pos ⟨rfl, rfl⟩]
theorem new_mJ (M : Mem) (k : Nat) : mJ (sNew M k) k (mC M k) = fun _ => 0 := by
  funext a
  show (if k = k ∧ mC M k = M.1 k then _ else _) = _
  rw [if_pos ⟨rfl, rfl⟩]
theorem new_mR (M : Mem) (k : Nat) : mR (sNew M k) k (mC M k) = fun _ => none := by
  funext a
  show (if k = k ∧ mC M k = M.1 k then _ else _) = _
  rw [if_pos ⟨rfl, rfl⟩]
theorem zz_gone {k q : Nat} {ad : Nat → Nat → Nat} {H1 : Heap} {locs : List Loc} {lsR : Array Slot} {c' n' pc' : Nat} (hk : k < kK) (hn : WW Ω false i p e s m args below meth cf Q ad0 M0 pc' ls (vR (some (k, mC M k)) :: r) (sNew M k) c' n') (hR : RelW Ω false (adN ad M k q) (sNew M k) H1)
    (hL : LRel ad ls lsR (mL i)) (hLo : LOk M ls) (hs : SOk M r) (hS : va_S (oA Ω) s.heap H1 locs) (hc : c' ≤ mCe i) (hn2 : n' ≤ mSl i) (hE : Ext ad0 M0 ad M) : W p (oL Ω) e (rmM i) s m args below meth cf H1 locs c' n' Q (F0 m pc' lsR (.ref q :: r.map (val ad))) := by
  have hE2 : Ext ad M (adN ad M k q) (sNew M k) := ⟨mC_newle M k, AE_new hk⟩
  have h := hn H1 locs (adN ad M k q) lsR hR (hL.ext hE2.2 hLo) (hLo.mono hE2.1) ⟨fun z hz => by cases hz; exact Or.inl ((inW_new hk).mpr (Or.inr rfl)), hs.mono hE2.1⟩ hS hc hn2 (hE.trans hE2)
  have h2 : W p (oL Ω) e (rmM i) s m args below meth cf H1 locs c' n' Q (F0 m pc' lsR (.ref (adN ad M k q k (mC M k)) :: r.map (val (adN ad M k q)))) := h
  rw [adN_self, map_ext hE2.2 hs] at h2
  exact h2
theorem zi_newa {k t N : Nat} {at' : ArrayType} {x : Int32} (hcx : Cx Ω i p s m meth cf) (hd : decode (mB i) pc = .ok (.newarray at', 2)) (hmd : md = false) (hkK : k < kK) (hk : kd (oN Ω) k = .inr (t, N)) (ht : t ≤ 3) (hty : newarray.typeOf at' = tagT t) (hw : Cond.arrayClass (newarray.typeOf at') ∈ gw) (hx : x = Int32.ofNat N) (hc1 : c + 1 ≤ mCe i) (hn1 : n + N ≤ mSl i)
    (hn : WW Ω md i p e s m args below meth cf Q ad0 M0 (pc + 2) ls (vR (some (k, mC M k)) :: r) (sNew M k) (c + 1) (n + N)) : WW Ω md i p e s m args below meth cf Q ad0 M0 pc ls (vI x :: r) M c n := by
  intro H locs ad lsR hR hL hLo hs hS hc hn2 hE
  subst hmd
  subst hx
  obtain ⟨htag, hN⟩ := kd_row hkK hk
  obtain ⟨hx0, hxN⟩ := zz_nI hN
  have hcell : ∀ q, cellOf Ω (adN ad M k q) (sNew M k) k (mC M k) = .inl (oT Ω t, N, if t = 3 then .inr (.inl (fun _ => 0)) else .inl (fun _ => 0)) := fun q => by
    rw [cellOf_row hk, new_mI, new_mJ, new_mR]
    congr 2
    congr 1
    split
    · rfl
    · rw [if_neg (by omega)]
  refine va_newa (ty := tagT t) (a0 := (N, if t = 3 then .inr (.inl (fun _ => 0)) else .inl (fun _ => 0))) hcx.1 hcx.2.1 (hcx.hts args _ hw) hty (hcx.K htag) hR.P hR.D hS hcx.new ?_ hx0 hxN ?_ hc1 hn1 hd (fun q cA H1 hK1 hP1 hD1 hS1 => ?_)
  · intro cA
    rcases (show t = 0 ∨ t = 1 ∨ t = 2 ∨ t = 3 by omega) with rfl | rfl | rfl | rfl <;> rfl
  · have : componentBytes (tagT t) ≤ 8 := by rcases (show t = 0 ∨ t = 1 ∨ t = 2 ∨ t = 3 by omega) with rfl | rfl | rfl | rfl <;> decide
    calc N * componentBytes (tagT t) ≤ 3000 * 8 := Nat.mul_le_mul hN this
      _ ≤ 536870912 := by decide
  · have hcA : cA = oT Ω t := va_RA_inj (hK1.2 1 (cA, tagT t) rfl).2 (hcx.2.2.2.2.1.2.2.2.1 t htag).2.1
    subst hcA
    rw [← hcell q] at hP1 hD1
    exact zz_gone hkK hn (hR.grow hkK hP1 hD1) hL hLo hs.2 hS1 hc1 hn1 hE
theorem zi_newq {k t N x0 : Nat} {x : Int32} (hcx : Cx Ω i p s m meth cf) (hd : decode (mB i) pc = .ok (.anewarray x0, 3)) (hmd : md = false) (hkK : k < kK) (hk : kd (oN Ω) k = .inr (t, N)) (ht : 10 ≤ t) (hw : Cond.classLink (ownR (mOw i)) x0 (clR (t - 10)) ∈ gw) (hx : x = Int32.ofNat N) (hc1 : c + 1 ≤ mCe i) (hn1 : n + N ≤ mSl i)
    (hn : WW Ω md i p e s m args below meth cf Q ad0 M0 (pc + 3) ls (vR (some (k, mC M k)) :: r) (sNew M k) (c + 1) (n + N)) : WW Ω md i p e s m args below meth cf Q ad0 M0 pc ls (vI x :: r) M c n := by
  intro H locs ad lsR hR hL hLo hs hS hc hn2 hE
  subst hmd
  subst hx
  obtain ⟨htag, hN⟩ := kd_row hkK hk
  obtain ⟨hx0, hxN⟩ := zz_nI hN
  have hcell : ∀ q, cellOf Ω (adN ad M k q) (sNew M k) k (mC M k) = .inl (oT Ω t, N, .inr (.inr (.inr (.inr (fun _ => none))))) := fun q => by
    rw [cellOf_row hk, if_neg (by omega), if_pos ht, new_mR]
    rfl
  have hK := hcx.K htag
  rw [zz_tagT ht] at hK
  refine va_newq (C := clR (t - 10)) hcx.1 hcx.2.1 hcx.2.2.2.1 (hcx.hts args _ hw) ((hcx.2.2.2.2.1.2.2.2.1 t htag).2.2 ht) hK hR.P hR.D hS hcx.new hx0 hxN (by omega) hc1 hn1 hd (fun q cA H1 hK1 hP1 hD1 hS1 => ?_)
  have h7 := (hcx.2.2.2.2.1.2.2.2.1 t htag).2.1
  rw [zz_tagT ht] at h7
  have hcA : cA = oT Ω t := va_RA_inj (hK1.2 1 (cA, .object (clR (t - 10))) rfl).2 h7
  subst hcA
  rw [← hcell q] at hP1 hD1
  exact zz_gone hkK hn (hR.grow hkK hP1 hD1) hL hLo hs.2 hS1 hc1 hn1 hE
def dv (t : Nat) : Value := match t with
  | 3 => .long 0
  | 4 => .null
  | _ => .int 0
theorem zz_dv : (List.range 13).all (fun ci => (List.range (clN ci)).all (fun k => decide (defaultValue (clT ci k) = dv (tagF (clT ci k))))) = true := by decide +kernel
theorem zz_dvok {ci k : Nat} (h : ci < 13) (hk : k < clN ci) : defaultValue (clT ci k) = dv (tagF (clT ci k)) := by
  have h1 := List.all_eq_true.mp (List.all_eq_true.mp zz_dv ci (List.mem_range.mpr h)) k (List.mem_range.mpr hk)
  simpa using h1
theorem zi_new {k ci x0 : Nat} (hcx : Cx Ω i p s m meth cf) (hd : decode (mB i) pc = .ok (.new x0, 3)) (hmd : md = false) (hkK : k < kK) (hk : kd (oN Ω) k = .inl ci) (hw : Cond.classLink (ownR (mOw i)) x0 (clR ci) ∈ gw) (hw2 : Cond.instantiable (clR ci) (clN ci) ∈ gw) (hw3 : Cond.initialized (clR ci) ∈ gw) (hc1 : c + 1 ≤ mCe i) (hn1 : n + clN ci ≤ mSl i)
    (hn : WW Ω md i p e s m args below meth cf Q ad0 M0 (pc + 3) ls (vR (some (k, mC M k)) :: r) (sNew M k) (c + 1) (n + clN ci)) : WW Ω md i p e s m args below meth cf Q ad0 M0 pc ls r M c n := by
  intro H locs ad lsR hR hL hLo hs hS hc hn2 hE
  subst hmd
  have hci := kd_obj hkK hk
  have hcell : ∀ q, cellOf Ω (adN ad M k q) (sNew M k) k (mC M k) = .inr (ci, (List.range (clN ci)).map (fun s => dv (tagF (clT ci s)))) := fun q => by
    rw [cellOf_obj hk]
    congr 2
    refine List.map_congr_left fun a _ => ?_
    unfold fv dv
    rw [new_mI, new_mJ, new_mR]
    rfl
  refine va_new (fs := (List.range (clN ci)).map (fun s => dv (tagF (clT ci s)))) hcx.1 hcx.2.1 (hcx.hts args) (zz_clin ci hci) (clT ci) (zz_clty ci hci) hcx.2.2.2.1 (hcx.hts args _ hw) (hcx.hts args _ hw2) (hcx.hts args _ hw3) hcx.2.2.2.2.1.2.2.1 hR.P hR.D hS hcx.new (zz_cl ci hci) (fun j hj => ?_) hc1 hn1 hd (fun q H1 hP1 hD1 hS1 => ?_)
  · rw [zz_dvok hci hj]
    unfold vp_V
    rw [List.getD_eq_getElem?_getD, zz_fs (f := fun s => dv (tagF (clT ci s))) hj]
    rfl
  · rw [← hcell q] at hP1 hD1
    exact zz_gone hkK hn (hR.grow hkK hP1 hD1) hL hLo hs hS1 hc1 hn1 hE
end INN
