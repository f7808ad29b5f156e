/-! CONSTRUCTORS, IV: Text -/
/-- the counters may only be too high -/
theorem go_c {Ω : Om} {md : Bool} {i : Nat} {K : Ka} {pc : Nat} {ls : List (Option Vl)} {st : List Vl} {M : Mem} {c n c' n' : Nat} (hc : c ≤ c') (hn : n ≤ n') (hc' : c' ≤ mCe i) (hn' : n' ≤ mSl i) (h : GoS Ω md i K pc ls st M c' n') : GoS Ω md i K pc ls st M c n := by
  intro p e s m args below meth cf Q ad0 M0 hcx hret H locs ad lsR hR hL hLo hs hS _ _ hE
  exact W.widen hc hn (h p e s m args below meth cf Q ad0 M0 hcx hret H locs ad lsR hR hL hLo hs hS hc' hn' hE)
/-- counts after j turns, each of which makes ks -/
def CntM (j : Nat) (ks : List Nat) (M M' : Mem) : Prop := ∀ k, mC M' k = mC M k + j * ks.count k
theorem CntM.zero {ks : List Nat} {M : Mem} : CntM 0 ks M M := fun k => by simp
theorem CntM.succ {j : Nat} {ks : List Nat} {M M' M'' : Mem} (h : CntM j ks M M') (h' : Cnt ks M' M'') : CntM (j + 1) ks M M'' := fun k => by
  rw [h' k, h k, Nat.add_mul, Nat.one_mul]; omega
/-- a row of references, filled up to j -/
def RowR (M : Mem) (k i j : Nat) (f : Nat → Rf) : Prop := ∀ s, mI M k i s = 0 ∧ mJ M k i s = 0 ∧ (s < j → mR M k i s = f s)
theorem RowR.zero {M : Mem} {k i : Nat} {f : Nat → Rf} (h : Zer M k i) : RowR M k i 0 f := fun s => ⟨(h s).1, (h s).2.1, fun q => absurd q (Nat.not_lt_zero _)⟩
theorem RowR.succ {M : Mem} {k i j : Nat} {f : Nat → Rf} {x : Rf} (h : RowR M k i j f) (hx : x = f j) : RowR (sR M k i j x) k i (j + 1) f := fun s => by
  refine ⟨(h s).1, (h s).2.1, fun q => ?_⟩
  rw [mR_sR]
  by_cases e : s = j
  · rw [if_pos ⟨rfl, rfl, e⟩, hx, e]
  · rw [if_neg (fun g => e g.2.2)]
    exact (h s).2.2 (by omega)
theorem RowR.unch {M M' : Mem} {ks : List Nat} {k i j : Nat} {f : Nat → Rf} (h : RowR M k i j f) (hU : Unch ks M M') (hk : k ∉ ks) : RowR M' k i j f := fun s => by
  obtain ⟨e1, e2, e3⟩ := hU k hk i s
  rw [e1, e2, e3]
  exact h s
theorem Fine.unch {M M' : Mem} {ks : List Nat} {k i : Nat} (h : Fine M k i) (hU : Unch ks M M') (hk : k ∉ ks) : Fine M' k i := fun s hs => by
  obtain ⟨e1, e2, e3⟩ := hU k hk i s
  rw [e1, e2, e3]
  exact h s hs
theorem Zer.unch {M M' : Mem} {ks : List Nat} {k i : Nat} (h : Zer M k i) (hU : Unch ks M M') (hk : k ∉ ks) : Zer M' k i := fun s => by
  obtain ⟨e1, e2, e3⟩ := hU k hk i s
  rw [e1, e2, e3]
  exact h s
theorem nI_lit (n : Nat) : nI n = Int32.ofNat n := rfl
theorem bT2 {j : Nat} (h : j < 4) : (37 + 12 * j + 1 ≤ mCe 70 ∧ 1301 + 113 * j + clN 10 ≤ mSl 70) ∧ (37 + 12 * j + 1 + mCe 104 ≤ mCe 70 ∧ 1301 + 113 * j + clN 10 + mSl 104 ≤ mSl 70) ∧ (37 + 12 * j + 1 + mCe 104 ≤ 37 + 12 * (j + 1) ∧ 1301 + 113 * j + clN 10 + mSl 104 ≤ 1301 + 113 * (j + 1)) ∧ (37 + 12 * (j + 1) ≤ mCe 70 ∧ 1301 + 113 * (j + 1) ≤ mSl 70) := by
  have b1 : mCe 70 = 85 := rfl
  have b2 : mSl 70 = 1753 := rfl
  have b3 : mCe 104 = 11 := rfl
  have b4 : mSl 104 = 101 := rfl
  have b5 : clN 10 = 12 := rfl
  omega
theorem bT1 {j : Nat} (h : j < 8) : (13 + 3 * j + 1 ≤ mCe 70 ∧ 1149 + 19 * j + clN 3 ≤ mSl 70) ∧ (13 + 3 * j + 1 + mCe 22 ≤ mCe 70 ∧ 1149 + 19 * j + clN 3 + mSl 22 ≤ mSl 70) ∧ (13 + 3 * j + 1 + mCe 22 ≤ 13 + 3 * (j + 1) ∧ 1149 + 19 * j + clN 3 + mSl 22 ≤ 1149 + 19 * (j + 1)) ∧ (13 + 3 * (j + 1) ≤ mCe 70 ∧ 1149 + 19 * (j + 1) ≤ mSl 70) := by
  have b1 : mCe 70 = 85 := rfl
  have b2 : mSl 70 = 1753 := rfl
  have b3 : mCe 22 = 2 := rfl
  have b4 : mSl 22 = 16 := rfl
  have b5 : clN 3 = 3 := rfl
  omega
theorem j4 {j : Nat} (hj : j ≤ 4) (g : (4 : Int32) ≤ nI j) : j = 4 := by
  rw [show (4 : Int32) = nI 4 from rfl, nI_leI (by omega) (by omega)] at g
  omega
theorem j4n {j : Nat} (hj : j ≤ 4) (g : ¬ (4 : Int32) ≤ nI j) : j < 4 := by
  rw [show (4 : Int32) = nI 4 from rfl, nI_leI (by omega) (by omega)] at g
  omega
theorem j8 {j : Nat} (hj : j ≤ 8) (g : (8 : Int32) ≤ nI j) : j = 8 := by
  rw [show (8 : Int32) = nI 8 from rfl, nI_leI (by omega) (by omega)] at g
  omega
theorem j8n {j : Nat} (hj : j ≤ 8) (g : ¬ (8 : Int32) ≤ nI j) : j < 8 := by
  rw [show (8 : Int32) = nI 8 from rfl, nI_leI (by omega) (by omega)] at g
  omega
theorem k_4 {a b t j : Nat} (h : a = b + j * 1) (hb : b = 4 * t) : a = 4 * t + j := by omega
theorem k_42 {a b t j : Nat} (h : a = b + j * 1) (hb : b = 4 * t + 2) : a = 4 * t + j + 2 := by omega
theorem k_8 {a b t j : Nat} (h : a = b + j * 1) (hb : b = 8 * t) : a = 8 * t + j := by omega
theorem st1 {f j n : Nat} (h : n - j ≤ f + 1) : n - (j + 1) ≤ f := by omega
set_option maxHeartbeats 8000000 in
/-- the wings' loop -/
theorem lp_Text2 (Ω : Om) (t : Nat) (M0 : Mem) (op : List (Nat × Nat)) (K : Ka) (hc : mC M0 10 = 4 * t ∧ mC M0 57 = 4 * t ∧ mC M0 58 = 4 * t ∧ mC M0 59 = 4 * t ∧ mC M0 60 = 4 * t ∧ mC M0 61 = 4 * t ∧ mC M0 62 = 4 * t ∧ mC M0 2 = 4 * t + 2 ∧ mC M0 23 = 4 * t + 2 ∧ mC M0 24 = 4 * t + 2 ∧ mC M0 25 = 4 * t + 2 ∧ mC M0 26 = 4 * t + 2)
    (hK : ∀ M', IV M' op → CntM 4 [26, 25, 24, 23, 2, 62, 61, 60, 59, 58, 57, 10] M0 M' → Unch [45, 10, 57, 58, 59, 60, 61, 62, 2, 23, 24, 25, 26] M0 M' → K none M') : ∀ (f j : Nat) (M : Mem) (a : List (Option Vl)), j ≤ 4 → 4 - j ≤ f → IV M ((45, t) :: op) → CntM j [26, 25, 24, 23, 2, 62, 61, 60, 59, 58, 57, 10] M0 M → Unch [45, 10, 57, 58, 59, 60, 61, 62, 2, 23, 24, 25, 26] M0 M → RowR M 45 t j (fun s => some (10, 4 * t + s)) → mR M 7 t 5 = some (45, t) →
    GoS Ω false m_Text_init K 119 [some (vR (some (7, t))), some (vI (nI j))] [] M (37 + 12 * j) (1301 + 113 * j) := by
  intro f
  induction f with
  | zero =>
    intro j M a hj hf hI hC hU hR h7
    have e : j = 4 := by omega
    subst e
    refine go_wp ok_Text_init [] 20 _ _ _ _ _ _ ?_
    refine br_t (Int32.le_refl _) (hK M (IV.close (k := 45) (i := t) hI (fun s hs => ?_)) hC hU)
    have hs : s < 4 := hs
    refine ⟨(hR s).1.trans rfl, (hR s).2.1.trans rfl, ((hR s).2.2 hs).trans rfl⟩
  | succ f ih =>
    intro j M a hj hf hI hC hU hR h7
    refine go_wp ok_Text_init [119] 20 _ _ _ _ _ _ ?_
    refine And.intro (fun g => ?_) (fun g => ?_)
    · have e : j = 4 := j4 hj g
      subst e
      refine hK M (IV.close (k := 45) (i := t) hI (fun s hs => ?_)) hC hU
      have hs : s < 4 := hs
      refine ⟨(hR s).1.trans rfl, (hR s).2.1.trans rfl, ((hR s).2.2 hs).trans rfl⟩
    · have hlt : j < 4 := j4n hj g
      obtain ⟨c1, c2, c3, c4, c5, c6, c7, c8, c9, c10, c11, c12⟩ := hc
      have k1 : mC M 10 = 4 * t + j := k_4 (hC 10) c1
      have k2 : mC M 57 = 4 * t + j := k_4 (hC 57) c2
      have k3 : mC M 58 = 4 * t + j := k_4 (hC 58) c3
      have k4 : mC M 59 = 4 * t + j := k_4 (hC 59) c4
      have k5 : mC M 60 = 4 * t + j := k_4 (hC 60) c5
      have k6 : mC M 61 = 4 * t + j := k_4 (hC 61) c6
      have k7 : mC M 62 = 4 * t + j := k_4 (hC 62) c7
      have k8 : mC M 2 = 4 * t + j + 2 := k_42 (hC 2) c8
      have k9 : mC M 23 = 4 * t + j + 2 := k_42 (hC 23) c9
      have k10 : mC M 24 = 4 * t + j + 2 := k_42 (hC 24) c10
      have k11 : mC M 25 = 4 * t + j + 2 := k_42 (hC 25) c11
      have k12 : mC M 26 = 4 * t + j + 2 := k_42 (hC 26) c12
      conv => whnf
      refine And.intro (bT2 hlt).1 ?_
      conv => whnf
      rw [k1]
      refine ⟨fun v M' => v = none ∧ IV M' ((45, t) :: op) ∧ Cnt [26, 25, 24, 23, 2, 62, 61, 60, 59, 58, 57] (sNew M 10) M' ∧ Unch [10, 57, 58, 59, 60, 61, 62, 2, 23, 24, 25, 26] (sNew M 10) M', c_Wing_init Ω (sNew M 10) (4 * t + j) ((45, t) :: op) _ (by rw [← k1]; exact IV.new hI) (by rw [← k1]; exact Zer.new) (by simp [mC_sNew, k2, k3, k4, k5, k6, k7, k8, k9, k10, k11, k12]) (fun M' a b c => ⟨rfl, a, b, c⟩), (bT2 hlt).2.1, ?_⟩
      rintro v M' ⟨rfl, hI2, hC2, hU2⟩
      have hC4 : Cnt [26, 25, 24, 23, 2, 62, 61, 60, 59, 58, 57, 10] M M' := Cnt.app (ks := [10]) (ks' := [26, 25, 24, 23, 2, 62, 61, 60, 59, 58, 57]) (Cnt.new Cnt.rfl) hC2
      have hU4 : Unch [45, 10, 57, 58, 59, 60, 61, 62, 2, 23, 24, 25, 26] M M' := Unch.trans (Unch.new Unch.rfl (by simp)) (hU2.mono (by simp))
      have hU5 : Unch [10, 57, 58, 59, 60, 61, 62, 2, 23, 24, 25, 26] M M' := Unch.trans (Unch.new Unch.rfl (by simp)) hU2
      conv => whnf
      rw [show rR false M 7 t 5 = some (45, t) from h7]
      conv => whnf
      refine And.intro (vp_in_nI hlt (by decide)) ?_
      rw [nI_clamp (Nat.lt_trans hlt (by decide))]
      have hR3 : RowR (sR M' 45 t j (some (10, 4 * t + j))) 45 t (j + 1) (fun s => some (10, 4 * t + s)) := RowR.succ (hR.unch hU5 (by simp)) rfl
      have hfin := ih (j + 1) (sR M' 45 t j (some (10, 4 * t + j))) a hlt (st1 hf) (IV.putR hI2 List.mem_cons_self) (hC.succ hC4) (hU.trans (Unch.putR hU4 (by simp))) hR3 (by rw [mR_sR, if_neg (by simp), (hU4 7 (by simp) t 5).2.2]; exact h7)
      rw [← nI_1] at hfin
      have hgo := go_c (bT2 hlt).2.2.1.1 (bT2 hlt).2.2.1.2 (bT2 hlt).2.2.2.1 (bT2 hlt).2.2.2.2 hfin
      exact hgo
