/-! BEST: how many strips are told -/
def bu (k x : Int32) : Int32 := (x.toUInt32 >>> (k.toUInt32 &&& Int32.toUInt32 31)).toInt32
def b1 (x : Int32) : Int32 := x - (bu 1 x &&& 1431655765)
def b2 (x : Int32) : Int32 := (x &&& 858993459) + (bu 2 x &&& 858993459)
def b3 (x : Int32) : Int32 := (x + bu 4 x) &&& 252645135
def b4 (x : Int32) : Int32 := x + bu 8 x
def b5 (x : Int32) : Int32 := (x + bu 16 x) &&& 63
def bc (x : Int32) : Int32 := b5 (b4 (b3 (b2 (b1 x))))
theorem c_bitCount (Ω : Om) (M : Mem) (x : Int32) (K : Ka) (h : K (some (vI (bc x))) M) : CallS Ω true m_Integer_bitCount_0f7a4 [vI x] M K := by
  refine call_go (hJL rfl) (Nat.le_of_ble_eq_true rfl) (go_wp ok_Integer_bitCount_0f7a4 [] 250 _ _ _ _ _ _ ?_)
  conv => whnf
  exact h
/-- the model's count -/
def mb (x : Int32) : Nat → Int32
  | 0 => 0
  | j + 1 => mb x j + (x >>> (nI j &&& 31) &&& 1)
theorem c_MD_bits (Ω : Om) (M : Mem) (x : Int32) (K : Ka) (h : K (some (vI (mb x 10))) M) : CallS Ω true m_MD_bits [vI x] M K := by
  refine call_go (hJL rfl) (Nat.le_of_ble_eq_true rfl) (go_wp ok_MD_bits [4] 250 _ _ _ _ _ _ ?_)
  conv => whnf
  refine upN 10 (fun j => GoS Ω true m_MD_bits K 4 [some (vI x), some (vI (mb x j)), some (vI (nI j))] [] M 0 0) ?_ ?_ 0 (Nat.zero_le _)
  · intro j hj hN
    refine go_wp ok_MD_bits [4] 250 _ _ _ _ _ _ ?_
    refine And.intro (fun a => absurd a (nI_ge (b := 10) (by omega) (by decide))) (fun _ => ?_)
    conv => whnf
    rw [mb, ← nI_1] at hN
    exact hN
  · refine go_wp ok_MD_bits [] 250 _ _ _ _ _ _ ?_
    exact And.intro (fun _ => h) (fun a => absurd (Int32.le_refl _) a)
def bcT : Bool := (List.range 1024).all fun k => decide (bc (nI k) = mb (nI k) 10)
theorem bcT_ok : bcT = true := by decide +kernel
theorem bc_mb {k : Nat} (h : k < 1024) : bc (nI k) = mb (nI k) 10 := of_decide_eq_true (List.all_eq_true.mp bcT_ok k (List.mem_range.mpr h))
/-- 1 << n -/
def shT2 : Bool := (List.range 11).all fun n => decide ((1 : Int32) <<< (nI n &&& 31) = nI (2 ^ n))
theorem shT2_ok : shT2 = true := by decide +kernel
theorem sh_n {n : Nat} (h : n ≤ 10) : (1 : Int32) <<< (nI n &&& 31) = nI (2 ^ n) := of_decide_eq_true (List.all_eq_true.mp shT2_ok n (List.mem_range.mpr (by omega)))
/-- the i-th strip is told -/
def bt (k i : Nat) : Bool := k / 2 ^ i % 2 == 1
def btT : Bool := (List.range 1024).all fun k => (List.range 10).all fun i => decide (nI k >>> (nI i &&& 31) &&& 1 = bI (bt k i))
theorem btT_ok : btT = true := by decide +kernel
theorem bt_i {k i : Nat} (h : k < 1024) (hi : i < 10) : nI k >>> (nI i &&& 31) &&& 1 = bI (bt k i) := of_decide_eq_true (List.all_eq_true.mp (List.all_eq_true.mp btT_ok k (List.mem_range.mpr h)) i (List.mem_range.mpr hi))
/-- how many of the first strips are told -/
def btC (k : Nat) : Nat → Nat
  | 0 => 0
  | i + 1 => btC k i + if bt k i = true then 1 else 0
theorem mb_c {k : Nat} (h : k < 1024) : ∀ j, j ≤ 10 → mb (nI k) j = nI (btC k j) := by
  intro j
  induction j with
  | zero => intro _; rfl
  | succ j ih =>
    intro hj
    rw [mb, ih (by omega), bt_i h (by omega), btC]
    cases bt k j with
    | true => exact nI_1 _
    | false =>
      show nI (btC k j) + 0 = nI (btC k j + 0)
      rw [Nat.add_zero]
      grind
theorem btC_le (k : Nat) : ∀ j, btC k j ≤ j := by
  intro j
  induction j with
  | zero => exact Nat.le_refl _
  | succ j ih => rw [btC]; split <;> omega
