/-! A LAW'S VALUE, in both -/
def vGo (x y : Nat → Int32) (a : Int64) : Nat → Nat → Int64
  | 0, k => (y k).toInt64
  | f + 1, k => if a < (x (k + 1)).toInt64 then (y k).toInt64 + (y (k + 1) - y k).toInt64 * (a - (x k).toInt64) / ((x (k + 1)).toInt64 - (x k).toInt64) else vGo x y a f (k + 1)
def valOf (n : Nat) (x y : Nat → Int32) (a : Int64) : Int64 := if a < (x 0).toInt64 then (y 0).toInt64 else vGo x y a (n - 1) 0
def LawOK (n : Nat) (x y : Nat → Int32) : Prop := 2 ≤ n ∧ n ≤ 8 ∧ (∀ j, j < n → -90 ≤ (x j).toInt ∧ (x j).toInt ≤ 90 ∧ -999 ≤ (y j).toInt ∧ (y j).toInt ≤ 999) ∧ ∀ j, j + 1 < n → (x j).toInt < (x (j + 1)).toInt
theorem LawOK.run {n : Nat} {x y : Nat → Int32} (h : LawOK n x y) {j : Nat} (hj : j + 1 < n) : (x (j + 1) - x j).toInt = (x (j + 1)).toInt - (x j).toInt := by
  have h1 := h.2.2.1 j (by omega)
  have h2 := h.2.2.1 (j + 1) hj
  exact I_sub (by omega)
theorem LawOK.runL {n : Nat} {x y : Nat → Int32} (h : LawOK n x y) {j : Nat} (hj : j + 1 < n) : (x (j + 1) - x j).toInt64 = (x (j + 1)).toInt64 - (x j).toInt64 := by
  have h1 := h.2.2.1 j (by omega)
  have h2 := h.2.2.1 (j + 1) hj
  apply Int64.toInt_inj.mp
  rw [I_l, h.run hj, J_sub (by rw [I_l, I_l]; omega), I_l, I_l]
theorem LawOK.pos {n : Nat} {x y : Nat → Int32} (h : LawOK n x y) {j : Nat} (hj : j + 1 < n) : ¬ x (j + 1) - x j ≤ 0 := by
  rw [Int32.le_iff_toInt_le, h.run hj]
  have := h.2.2.2 j hj
  rw [show (0 : Int32).toInt = 0 from rfl]
  omega
theorem LawOK.ne {n : Nat} {x y : Nat → Int32} (h : LawOK n x y) {j : Nat} (hj : j + 1 < n) : ¬ (x (j + 1)).toInt64 - (x j).toInt64 = 0 := by
  rw [← h.runL hj]
  intro e
  have := congrArg Int64.toInt e
  rw [I_l, h.run hj, show (0 : Int64).toInt = 0 from rfl] at this
  have := h.2.2.2 j hj
  omega
theorem lp_valueAt (Ω : Om) (M : Mem) (L n : Nat) (x y : Nat → Int32) (a : Int64) (K : Ka) (hO : LawOK n x y) (hn : mI M 3 L 2 = nI n) (hx : ∀ j, j < n → mI M 27 L j = x j) (hy : ∀ j, j < n → mI M 28 L j = y j) :
    ∀ (f k : Nat) (r : Option Vl), k + 1 + f = n → K (some (vJ (vGo x y a f k))) M → GoS Ω true m_Law_valueAt K 30 [some (vR (some (3, L))), some (vJ a), none, some (vI (nI (k + 1))), r] [] M 0 0 := by
  have h8 := hO.2.1
  intro f
  induction f with
  | zero =>
    intro k r hk h
    refine go_wp ok_Law_valueAt [] 250 _ _ _ _ _ _ ?_
    refine And.intro (fun _ => ?_) (fun b => ?_)
    · conv => whnf
      rw [hn]
      have e : (if (8 : Int32) < nI n then (8 : Int32) else nI n) - 1 = nI k := by
        rw [if_neg (show ¬ (8 : Int32) < nI n from nI_nlt (a := 8) h8 (by decide)), ← hk]
        exact nI_pred k
      rw [e]
      refine And.intro (vp_in_nI (by omega) (by decide)) ?_
      rw [nI_clamp (by omega), hy k (by omega)]
      exact h
    · rw [hn, nI_leI (by omega) (by omega)] at b
      omega
  | succ f ih =>
    intro k r hk h
    have hx0 := hx k (by omega)
    have hx1 := hx (k + 1) (by omega)
    have hy0 := hy k (by omega)
    have hy1 := hy (k + 1) (by omega)
    refine go_wp ok_Law_valueAt [30] 250 _ _ _ _ _ _ ?_
    refine And.intro (fun b => ?_) (fun _ => And.intro (fun b => absurd b (nI_ge (b := 8) (by omega) (by decide))) (fun _ => ?_))
    · rw [hn, nI_leI (by omega) (by omega)] at b
      omega
    · conv => whnf
      refine And.intro (vp_in_nI (by omega) (by decide)) ?_
      conv => whnf
      rw [nI_pred]
      refine And.intro (vp_in_nI (by omega) (by decide)) ?_
      rw [nI_clamp (by omega), nI_clamp (by omega), hx0, hx1]
      refine And.intro (fun b => absurd b (hO.pos (by omega))) (fun _ => ?_)
      conv => whnf
      refine And.intro (vp_in_nI (by omega) (by decide)) ?_
      rw [nI_clamp (by omega), hx1]
      refine And.intro (fun b => ?_) (fun b => ?_)
      · have b := (lg_cmp_ge _ _).mp b
        have e := ih (k + 1) (some (vI (x (k + 1) - x k))) (by omega) (by rw [vGo, if_neg (Int64.not_lt.mpr b)] at h; exact h)
        conv => whnf
        rw [← nI_1] at e
        exact e
      · have b : a < (x (k + 1)).toInt64 := Int64.not_le.mp (fun q => b ((lg_cmp_ge _ _).mpr q))
        conv => whnf
        rw [nI_pred]
        refine And.intro (vp_in_nI (by omega) (by decide)) ?_
        conv => whnf
        refine And.intro (vp_in_nI (by omega) (by decide)) ?_
        conv => whnf
        rw [nI_pred]
        refine And.intro (vp_in_nI (by omega) (by decide)) ?_
        conv => whnf
        rw [nI_pred]
        refine And.intro (vp_in_nI (by omega) (by decide)) ?_
        conv => whnf
        rw [hO.runL (show k + 1 < n by omega)]
        refine And.intro (hO.ne (show k + 1 < n by omega)) ?_
        rw [nI_clamp (by omega), nI_clamp (by omega), hx0, hy0, hy1]
        rw [vGo, if_pos b] at h
        exact h
theorem c_valueAt (Ω : Om) (M : Mem) (L n : Nat) (x y : Nat → Int32) (a : Int64) (K : Ka) (hO : LawOK n x y) (hn : mI M 3 L 2 = nI n) (hx : ∀ j, j < n → mI M 27 L j = x j) (hy : ∀ j, j < n → mI M 28 L j = y j) (h : K (some (vJ (valOf n x y a))) M) : CallS Ω true m_Law_valueAt [vR (some (3, L)), vJ a] M K := by
  have h8 := hO.2.1
  have h2 := hO.1
  refine call_go (hJL rfl) (Nat.le_of_ble_eq_true rfl) (go_wp ok_Law_valueAt [30] 250 _ _ _ _ _ _ ?_)
  refine And.intro (fun b => ?_) (fun _ => ?_)
  · rw [hn] at b
    exact absurd b (nI_nlt (b := 1) (by omega) (by omega))
  · conv => whnf
    refine And.intro (vp_in_nI (n := 0) (by omega) (by decide)) ?_
    rw [show mI M 27 L (Int32.toNatClampNeg 0) = x 0 from hx 0 (by omega)]
    refine And.intro (fun b => ?_) (fun b => ?_)
    · have b := (lg_cmp_ge _ _).mp b
      conv => whnf
      exact lp_valueAt Ω M L n x y a K hO hn hx hy (n - 1) 0 none (by omega) (by rw [valOf, if_neg (Int64.not_lt.mpr b)] at h; exact h)
    · have b : a < (x 0).toInt64 := Int64.not_le.mp (fun q => b ((lg_cmp_ge _ _).mpr q))
      conv => whnf
      refine And.intro (vp_in_nI (n := 0) (by omega) (by decide)) ?_
      rw [show mI M 28 L (Int32.toNatClampNeg 0) = y 0 from hy 0 (by omega)]
      rw [valOf, if_pos b] at h
      exact h
theorem lp_valueOf (Ω : Om) (M : Mem) (r n : Nat) (x y : Nat → Int32) (a : Int64) (K : Ka) (hO : LawOK n x y) (hr : r < 40) (hx : ∀ j, j < n → mI M 78 0 (8 * r + j) = x j) (hy : ∀ j, j < n → mI M 79 0 (8 * r + j) = y j) :
    ∀ (f k : Nat) (r7 r8 r9 r10 : Option Vl), k + 1 + f = n → K (some (vJ (vGo x y a f k))) M → GoS Ω true m_MD_valueOf K 45 [some (vR (some (12, 0))), some (vI (nI r)), some (vJ a), none, some (vI (nI (8 * r))), some (vI (nI (8 * r + (n - 1)))), some (vI (nI (8 * r + k))), r7, r8, r9, r10] [] M 0 0 := by
  have h8 := hO.2.1
  intro f
  induction f with
  | zero =>
    intro k r7 r8 r9 r10 hk h
    have e : n - 1 = k := by omega
    refine go_wp ok_MD_valueOf [] 250 _ _ _ _ _ _ ?_
    refine And.intro (fun _ => ?_) (fun b => ?_)
    · conv => whnf
      rw [e]
      refine And.intro (vp_in_nI (by omega) (by decide)) ?_
      rw [nI_clamp (by omega), hy k (by omega)]
      exact h
    · rw [nI_leI (by omega) (by omega)] at b
      omega
  | succ f ih =>
    intro k r7 r8 r9 r10 hk h
    have hx0 := hx k (by omega)
    have hx1 := hx (k + 1) (by omega)
    have hy0 := hy k (by omega)
    have hy1 := hy (k + 1) (by omega)
    refine go_wp ok_MD_valueOf [45] 250 _ _ _ _ _ _ ?_
    refine And.intro (fun b => ?_) (fun _ => ?_)
    · rw [nI_leI (by omega) (by omega)] at b
      omega
    · conv => whnf
      refine And.intro (vp_in_nI (by omega) (by decide)) ?_
      conv => whnf
      rw [nI_1]
      refine And.intro (vp_in_nI (by omega) (by decide)) ?_
      rw [nI_clamp (by omega), nI_clamp (by omega), Nat.add_assoc, hx0, hx1]
      refine And.intro (fun b => ?_) (fun b => ?_)
      · have b := (lg_cmp_ge _ _).mp b
        have e := ih (k + 1) (some (vJ (x k).toInt64)) none (some (vJ (x (k + 1)).toInt64)) none (by omega) (by rw [vGo, if_neg (Int64.not_lt.mpr b)] at h; exact h)
        conv => whnf
        rw [← Nat.add_assoc, ← nI_1] at e
        exact e
      · have b : a < (x (k + 1)).toInt64 := Int64.not_le.mp (fun q => b ((lg_cmp_ge _ _).mpr q))
        conv => whnf
        refine And.intro (vp_in_nI (by omega) (by decide)) ?_
        conv => whnf
        rw [nI_1]
        refine And.intro (vp_in_nI (by omega) (by decide)) ?_
        conv => whnf
        refine And.intro (vp_in_nI (by omega) (by decide)) ?_
        refine And.intro (hO.ne (show k + 1 < n by omega)) ?_
        rw [nI_clamp (by omega), nI_clamp (by omega), Nat.add_assoc, hy0, hy1]
        rw [vGo, if_pos b] at h
        exact h
theorem c_valueOf (Ω : Om) (M : Mem) (r n : Nat) (x y : Nat → Int32) (a : Int64) (K : Ka) (hO : LawOK n x y) (hr : r < 40) (hn : mI M 77 0 r = nI n) (hx : ∀ j, j < n → mI M 78 0 (8 * r + j) = x j) (hy : ∀ j, j < n → mI M 79 0 (8 * r + j) = y j) (h : K (some (vJ (valOf n x y a))) M) : CallS Ω true m_MD_valueOf [vR (some (12, 0)), vI (nI r), vJ a] M K := by
  have h8 := hO.2.1
  have h2 := hO.1
  refine call_go (hJL rfl) (Nat.le_of_ble_eq_true rfl) (go_wp ok_MD_valueOf [45] 250 _ _ _ _ _ _ ?_)
  conv => whnf
  refine And.intro (vp_in_nI (by omega) (by decide)) ?_
  rw [nI_clamp (by omega), hn]
  conv => whnf
  rw [show (8 : Int32) = nI 8 from rfl, pk_mul, nI_add, show nI (8 * r + n) - 1 = nI (8 * r + (n - 1)) from by rw [show 8 * r + n = (8 * r + (n - 1)) + 1 by omega, nI_pred]]
  refine And.intro (vp_in_nI (by omega) (by decide)) ?_
  rw [nI_clamp (by omega), show mI M 78 0 (8 * r) = x 0 from hx 0 (by omega)]
  refine And.intro (fun b => ?_) (fun b => ?_)
  · have b := (lg_cmp_ge _ _).mp b
    conv => whnf
    exact lp_valueOf Ω M r n x y a K hO hr hx hy (n - 1) 0 none none none none (by omega) (by rw [valOf, if_neg (Int64.not_lt.mpr b)] at h; exact h)
  · have b : a < (x 0).toInt64 := Int64.not_le.mp (fun q => b ((lg_cmp_ge _ _).mpr q))
    conv => whnf
    refine And.intro (vp_in_nI (by omega) (by decide)) ?_
    rw [nI_clamp (by omega), show mI M 79 0 (8 * r) = y 0 from hy 0 (by omega)]
    rw [valOf, if_pos b] at h
    exact h
