/-! THE SMALL MACHINE IS THE MACHINE, II -/
section SND
variable {Ω : Om} {md : Bool} {i : Nat} {p : Program} {e : Env} {s : State} {m : MethodId} {args : Array Value} {below : List Frame} {meth : Method} {cf : Code} {Q : State → Prop} {ad0 : Nat → Nat → Nat} {M0 : Mem} {pc : Nat} {ls : List (Option Vl)} {r : List Vl} {M : Mem} {c n : Nat}
/-- what is known where a method returns -/
def ReH (Ω : Om) (md : Bool) (i : Nat) (p : Program) (e : Env) (s : State) (m : MethodId) (args : Array Value) (below : List Frame) (meth : Method) (cf : Code) (Q : State → Prop) (ad0 : Nat → Nat → Nat) (M0 : Mem) (K : Ka) : Prop :=
  ∀ (H : Heap) (locs : List Loc) (ad : Nat → Nat → Nat) (lsR : Array Slot) (pc : Nat) (ins : Instr) (v : Option Vl) (M : Mem) (c n : Nat), K v M → RelW Ω md ad M H → (∀ w, v = some w → VOk M w) → Ext ad0 M0 ad M → va_S (oA Ω) s.heap H locs → c ≤ mCe i → n ≤ mSl i → decode (mB i) pc = .ok (ins, 1) → retOK (mT i) ins v →
    W p (oL Ω) e (rmM i) s m args below meth cf H locs c n Q (F0 m pc lsR (v.map (val ad)).toList)
theorem zi_ret {K : Ka} (hret : ReH Ω md i p e s m args below meth cf Q ad0 M0 K) {ins : Instr} {v : Option Vl} (hd : decode (mB i) pc = .ok (ins, 1)) (hK : K v M) (hv : retOK (mT i) ins v) {st : List Vl} (hst : st = v.toList) : WW Ω md i p e s m args below meth cf Q ad0 M0 pc ls st M c n := by
  intro H locs ad lsR hR hL hLo hs hS hc hn2 hE
  subst hst
  have h := hret H locs ad lsR pc ins v M c n hK hR (fun w hw => by subst hw; exact hs.1) hE hS hc hn2 hd hv
  cases v <;> exact h
theorem sw_sound (hcx : Cx Ω i p s m meth cf) {dflt lo hi : Int} {offs : Array Int} {len : Nat} {x : Int32} {a : Nat} {sl : List (Int32 × Nat)} (hd : decode (mB i) pc = .ok (.tableswitch dflt lo hi offs, len)) (ha : (pc : Int) + dflt = (a : Int)) (hsw : swOK pc lo hi offs sl = true) {nx : Co} (hnx : ∀ pc ls st M c n, nx pc ls st M c n → WW Ω md i p e s m args below meth cf Q ad0 M0 pc ls st M c n) (h : swC x sl (fun t => nx t ls r M c n) (nx a ls r M c n)) : WW Ω md i p e s m args below meth cf Q ad0 M0 pc ls (vI x :: r) M c n := by
  unfold swOK at hsw
  simp only [Bool.and_eq_true, decide_eq_true_eq] at hsw
  obtain ⟨h1, h2, h3, h4⟩ := hsw
  have h5 : ∀ j, j < sl.length → ∃ k t off, sl[j]? = some (k, t) ∧ offs[j]? = some off ∧ k.toInt = lo + j ∧ (pc : Int) + off = (t : Int) := by
    intro j hj
    have h6 := List.all_eq_true.mp h4 j (List.mem_range.mpr hj)
    cases hs : sl[j]? with
    | none => rw [hs] at h6; simp at h6
    | some q => cases ho : offs[j]? with
      | none => rw [hs, ho] at h6; simp at h6
      | some off =>
        rw [hs, ho] at h6
        simp only [Bool.and_eq_true, decide_eq_true_eq] at h6
        exact ⟨q.1, q.2, off, rfl, rfl, h6.1, h6.2⟩
  have key : ∀ (l : List (Int32 × Nat)) (j0 : Nat), (∀ j, l[j]? = sl[j0 + j]?) → swC x l (fun t => nx t ls r M c n) (nx a ls r M c n) → (∀ j, j < j0 → ∀ k t, sl[j]? = some (k, t) → ¬ x = k) → j0 + l.length = sl.length → WW Ω md i p e s m args below meth cf Q ad0 M0 pc ls (vI x :: r) M c n := by
    intro l
    induction l with
    | nil =>
      intro j0 _ hC hne hlen
      have hC : nx a ls r M c n := hC
      refine zi_swOut hcx hd ?_ ha (hnx _ _ _ _ _ _ hC)
      by_cases hx1 : x.toInt < lo
      · exact Or.inl hx1
      · by_cases hx2 : hi < x.toInt
        · exact Or.inr hx2
        · exfalso
          have hj : (x.toInt - lo).toNat < sl.length := by omega
          obtain ⟨k, t, off, g1, g2, g3, g4⟩ := h5 _ hj
          refine hne _ ?_ k t g1 ?_
          · simp at hlen; omega
          · exact Int32.toInt_inj.mp (by omega)
    | cons q l ih =>
      intro j0 hl hC hne hlen
      obtain ⟨k, t⟩ := q
      obtain ⟨hC1, hC2⟩ := hC
      have hq : sl[j0]? = some (k, t) := by have := hl 0; simpa using this.symm
      by_cases hx : x = k
      · have hj : j0 < sl.length := (List.getElem?_eq_some_iff.mp hq).1
        obtain ⟨k', t', off, g1, g2, g3, g4⟩ := h5 _ hj
        rw [hq] at g1
        cases g1
        refine zi_swIn hcx hd ?_ ?_ (off := off) ?_ g4 (hnx _ _ _ _ _ _ (hC1 hx))
        · rw [hx]; omega
        · rw [hx]; omega
        · rw [hx, show (k.toInt - lo).toNat = j0 by omega]; exact g2
      · refine ih (j0 + 1) (fun j => ?_) (hC2 hx) (fun j hj k' t' hs => ?_) (by simp at hlen; omega)
        · have := hl (j + 1)
          rw [show j0 + 1 + j = j0 + (j + 1) by omega, ← this]
          simp
        · by_cases hjj : j = j0
          · subst hjj
            rw [hq] at hs
            cases hs
            exact hx
          · exact hne j (by omega) k' t' hs
  exact key sl 0 (fun j => by rw [Nat.zero_add]) h (fun j hj => absurd hj (Nat.not_lt_zero j)) (Nat.zero_add _)
theorem zz_MM : MM.all (fun x => decide (Cond.methodLink (ownR x.1) x.2.1 (mathN x.2.2.2) ∈ tables_1) && goodWord (Cond.methodLink (ownR x.1) x.2.1 (mathN x.2.2.2))) = true := by decide +kernel
theorem MM_in {o x j b : Nat} (h : (o, x, j, b) ∈ MM) : Cond.methodLink (ownR o) x (mathN b) ∈ gw := by
  have h1 := List.all_eq_true.mp zz_MM _ h
  simp only [Bool.and_eq_true, decide_eq_true_eq] at h1
  exact zz_tblw h1.1 h1.2
theorem zz_mw : [Cond.initialized "java/lang/Math", Cond.static Lib.Math.max.name, Cond.static Lib.Math.min.name, Cond.static Lib.Math.abs.name, Cond.static Lib.MathLoose.max_long.x, Cond.static Lib.MathLoose.min_long.x, Cond.static Lib.MathLoose.abs_long.x, Cond.code Lib.Math.max.name Lib.Math.max.code 2 (some .int), Cond.code Lib.Math.min.name Lib.Math.min.code 2 (some .int), Cond.code Lib.Math.abs.name Lib.Math.abs.code 1 (some .int), Cond.code Lib.MathLoose.max_long.x Lib.MathLoose.max_long.code 4 (some .long), Cond.code Lib.MathLoose.min_long.x Lib.MathLoose.min_long.code 4 (some .long), Cond.code Lib.MathLoose.abs_long.x Lib.MathLoose.abs_long.code 2 (some .long)].all (fun w => decide (w ∈ tables_1) && goodWord w) = true := by decide +kernel
theorem mw_in {w : Cond} (h : w ∈ [Cond.initialized "java/lang/Math", Cond.static Lib.Math.max.name, Cond.static Lib.Math.min.name, Cond.static Lib.Math.abs.name, Cond.static Lib.MathLoose.max_long.x, Cond.static Lib.MathLoose.min_long.x, Cond.static Lib.MathLoose.abs_long.x, Cond.code Lib.Math.max.name Lib.Math.max.code 2 (some .int), Cond.code Lib.Math.min.name Lib.Math.min.code 2 (some .int), Cond.code Lib.Math.abs.name Lib.Math.abs.code 1 (some .int), Cond.code Lib.MathLoose.max_long.x Lib.MathLoose.max_long.code 4 (some .long), Cond.code Lib.MathLoose.min_long.x Lib.MathLoose.min_long.code 4 (some .long), Cond.code Lib.MathLoose.abs_long.x Lib.MathLoose.abs_long.code 2 (some .long)]) : w ∈ gw := by
  have h1 := List.all_eq_true.mp zz_mw w h
  simp only [Bool.and_eq_true, decide_eq_true_eq] at h1
  exact zz_tblw h1.1 h1.2
theorem zi_mmax (hcx : Cx Ω i p s m meth cf) {w : Nat} {x y : Int32} (hd : decode (mB i) pc = .ok (.invokestatic w, 3)) (hw : Cond.methodLink (ownR (mOw i)) w Lib.Math.max.name ∈ gw) (hf : 1 ≤ mFr i) (hl : 23 ≤ mLo i) (hr8 : cS r ≤ 8) (hn : WW Ω md i p e s m args below meth cf Q ad0 M0 (pc + 3) ls (vI (if x < y then y else x) :: r) M c n) : WW Ω md i p e s m args below meth cf Q ad0 M0 pc ls (vI y :: vI x :: r) M c n := by
  intro H locs ad lsR hR hL hLo hs hS hc hn2 hE
  exact va_mmax hcx.1 hcx.2.1 (hcx.2.2.1.trans hL.1.symm) hcx.2.2.2.1 (hcx.hts args _ hw) (hcx.hts args _ (mw_in (by simp))) (hcx.hts args _ (mw_in (by simp))) (hcx.hts args _ (mw_in (by simp))) hf (by rw [cS_cat]; show _ ≤ mLo i; omega) hc hn2 hd (hn H locs ad lsR hR hL hLo ⟨VOk_I _ _, hs.2.2⟩ hS hc hn2 hE)
theorem zi_mmin (hcx : Cx Ω i p s m meth cf) {w : Nat} {x y : Int32} (hd : decode (mB i) pc = .ok (.invokestatic w, 3)) (hw : Cond.methodLink (ownR (mOw i)) w Lib.Math.min.name ∈ gw) (hf : 1 ≤ mFr i) (hl : 23 ≤ mLo i) (hr8 : cS r ≤ 8) (hn : WW Ω md i p e s m args below meth cf Q ad0 M0 (pc + 3) ls (vI (if y < x then y else x) :: r) M c n) : WW Ω md i p e s m args below meth cf Q ad0 M0 pc ls (vI y :: vI x :: r) M c n := by
  intro H locs ad lsR hR hL hLo hs hS hc hn2 hE
  exact va_mmin hcx.1 hcx.2.1 (hcx.2.2.1.trans hL.1.symm) hcx.2.2.2.1 (hcx.hts args _ hw) (hcx.hts args _ (mw_in (by simp))) (hcx.hts args _ (mw_in (by simp))) (hcx.hts args _ (mw_in (by simp))) hf (by rw [cS_cat]; show _ ≤ mLo i; omega) hc hn2 hd (hn H locs ad lsR hR hL hLo ⟨VOk_I _ _, hs.2.2⟩ hS hc hn2 hE)
theorem zi_mabs (hcx : Cx Ω i p s m meth cf) {w : Nat} {x : Int32} (hd : decode (mB i) pc = .ok (.invokestatic w, 3)) (hw : Cond.methodLink (ownR (mOw i)) w Lib.Math.abs.name ∈ gw) (hf : 1 ≤ mFr i) (hl : 23 ≤ mLo i) (hr8 : cS r ≤ 8) (hn : WW Ω md i p e s m args below meth cf Q ad0 M0 (pc + 3) ls (vI (if 0 ≤ x then x else 0 - x) :: r) M c n) : WW Ω md i p e s m args below meth cf Q ad0 M0 pc ls (vI x :: r) M c n := by
  intro H locs ad lsR hR hL hLo hs hS hc hn2 hE
  exact va_mabs hcx.1 hcx.2.1 (hcx.2.2.1.trans hL.1.symm) hcx.2.2.2.1 (hcx.hts args _ hw) (hcx.hts args _ (mw_in (by simp))) (hcx.hts args _ (mw_in (by simp))) (hcx.hts args _ (mw_in (by simp))) hf (by rw [cS_cat]; show _ ≤ mLo i; omega) hc hn2 hd (hn H locs ad lsR hR hL hLo ⟨VOk_I _ _, hs.2⟩ hS hc hn2 hE)
theorem zi_lmax (hcx : Cx Ω i p s m meth cf) {w : Nat} {x y : Int64} (hd : decode (mB i) pc = .ok (.invokestatic w, 3)) (hw : Cond.methodLink (ownR (mOw i)) w Lib.MathLoose.max_long.x ∈ gw) (hf : 1 ≤ mFr i) (hl : 23 ≤ mLo i) (hr8 : cS r ≤ 8) (hn : WW Ω md i p e s m args below meth cf Q ad0 M0 (pc + 3) ls (vJ (if y < x then x else y) :: r) M c n) : WW Ω md i p e s m args below meth cf Q ad0 M0 pc ls (vJ y :: vJ x :: r) M c n := by
  intro H locs ad lsR hR hL hLo hs hS hc hn2 hE
  exact va_mmax_long hcx.1 hcx.2.1 (hcx.2.2.1.trans hL.1.symm) hcx.2.2.2.1 (hcx.hts args _ hw) (hcx.hts args _ (mw_in (by simp))) (hcx.hts args _ (mw_in (by simp))) (hcx.hts args _ (mw_in (by simp))) hf (by rw [cS_cat]; show _ ≤ mLo i; omega) hc hn2 hd (hn H locs ad lsR hR hL hLo ⟨VOk_J _ _, hs.2.2⟩ hS hc hn2 hE)
theorem zi_lmin (hcx : Cx Ω i p s m meth cf) {w : Nat} {x y : Int64} (hd : decode (mB i) pc = .ok (.invokestatic w, 3)) (hw : Cond.methodLink (ownR (mOw i)) w Lib.MathLoose.min_long.x ∈ gw) (hf : 1 ≤ mFr i) (hl : 23 ≤ mLo i) (hr8 : cS r ≤ 8) (hn : WW Ω md i p e s m args below meth cf Q ad0 M0 (pc + 3) ls (vJ (if y < x then y else x) :: r) M c n) : WW Ω md i p e s m args below meth cf Q ad0 M0 pc ls (vJ y :: vJ x :: r) M c n := by
  intro H locs ad lsR hR hL hLo hs hS hc hn2 hE
  exact va_mmin_long hcx.1 hcx.2.1 (hcx.2.2.1.trans hL.1.symm) hcx.2.2.2.1 (hcx.hts args _ hw) (hcx.hts args _ (mw_in (by simp))) (hcx.hts args _ (mw_in (by simp))) (hcx.hts args _ (mw_in (by simp))) hf (by rw [cS_cat]; show _ ≤ mLo i; omega) hc hn2 hd (hn H locs ad lsR hR hL hLo ⟨VOk_J _ _, hs.2.2⟩ hS hc hn2 hE)
theorem zi_labs (hcx : Cx Ω i p s m meth cf) {w : Nat} {x : Int64} (hd : decode (mB i) pc = .ok (.invokestatic w, 3)) (hw : Cond.methodLink (ownR (mOw i)) w Lib.MathLoose.abs_long.x ∈ gw) (hf : 1 ≤ mFr i) (hl : 23 ≤ mLo i) (hr8 : cS r ≤ 8) (hn : WW Ω md i p e s m args below meth cf Q ad0 M0 (pc + 3) ls (vJ (if 0 < x then x else -x) :: r) M c n) : WW Ω md i p e s m args below meth cf Q ad0 M0 pc ls (vJ x :: r) M c n := by
  intro H locs ad lsR hR hL hLo hs hS hc hn2 hE
  exact va_mabs_long hcx.1 hcx.2.1 (hcx.2.2.1.trans hL.1.symm) hcx.2.2.2.1 (hcx.hts args _ hw) (hcx.hts args _ (mw_in (by simp))) (hcx.hts args _ (mw_in (by simp))) (hcx.hts args _ (mw_in (by simp))) hf (by rw [cS_cat]; show _ ≤ mLo i; omega) hc hn2 hd (hn H locs ad lsR hR hL hLo ⟨VOk_J _ _, hs.2⟩ hS hc hn2 hE)
theorem kd0_big {k : Nat} (h : kSH < k) : kd0 k = .inr (99, 0) := by
  have hb : ∀ x, x ≤ 142 → Nat.ble k x = false := fun x hx => by
    cases hz : Nat.ble k x with
    | false => rfl
    | true => have := Nat.le_of_ble_eq_true hz; unfold kSH at h; omega
  unfold kd0
  simp [hb]
theorem kd_big {L k t N : Nat} (hk : ¬ k < kK) (ht : t ≠ 0 ∧ t ≠ 99) : ¬ kd L k = .inr (t, N) := by
  intro h
  by_cases h1 : k = kSCR
  · subst h1; rw [kd_scr] at h; cases h; exact ht.1 rfl
  · have hb : Nat.ble k kSH = true ∨ Nat.ble k kSH = false := by cases Nat.ble k kSH <;> simp
    by_cases h2 : k = kSH
    · subst h2; rw [kd_sh] at h; cases h; exact ht.1 rfl
    · rw [kd_eq _ _ h1, kd0_big (by unfold kSH at h2 ⊢; unfold kSCR at h1; unfold kK at hk; omega)] at h
      cases h
      exact ht.2 rfl
theorem zi_ldcS (hcx : Cx Ω i p s m meth cf) (hd : decode (mB i) pc = .ok (.ldc 11, 2)) (ho : ownR (mOw i) = "WingHouse$Tokens") (hn : WW Ω md i p e s m args below meth cf Q ad0 M0 (pc + 2) ls (vR (some (kSTR, 0)) :: r) M c n) : WW Ω md i p e s m args below meth cf Q ad0 M0 pc ls r M c n := by
  intro H locs ad lsR hR hL hLo hs hS hc hn2 hE
  have hk2 := hn H locs ad lsR hR hL hLo ⟨fun q h => by cases h; exact Or.inr ⟨rfl, Or.inr (Or.inr rfl)⟩, hs⟩ hS hc hn2 hE
  have hk3 : W p (oL Ω) e (rmM i) s m args below meth cf H locs c n Q (F0 m (pc + 2) lsR (.ref (ad kSTR 0) :: r.map (val ad))) := hk2
  rw [hR.2.2.2.2.2.2.2.2.2] at hk3
  have hown := hcx.2.2.2.1
  rw [ho] at hown
  exact va_ldcS hcx.1 hcx.2.1 hown hcx.2.2.2.2.1.2.2.2.2.2.2.1 hd hk3
end SND
