/-! BEST: how many strips are told -/
def bu (k x : Int32) : Int32 := (x.toUInt32 >>> (k.toUInt32 &&& Int32.toUInt32 31)).toInt32
def b1 (x : Int32) : Int32 := x - (bu 1 x &&& 1431655765)
def b2 (x : Int32) : Int32 := (x &&& 858993459) + (bu 2 x &&& 858993459)
def b3 (x : Int32) : Int32 := (x + bu 4 x) &&& 252645135
def b4 (x : Int32) : Int32 := x + bu 8 x
def b5 (x : Int32) : Int32 := (x + bu 16 x) &&& 63
def bc (x : Int32) : Int32 := b5 (b4 (b3 (b2 (b1 x))))
theorem c_bitCount (Ω : Om) (M : Mem) (x : Int32) (K : Ka) (h : K (some (vI (bc x))) M) : CallS Ω true m_Integer_bitCount_0f7a4 [vI x] M K := by
  refine call_go (hJL rfl) (Nat.le_of_ble_eq_true rfl) (go_wp ok_Integer_bitCount_0f7a4 [] 250 _ _ _ _ _ _ ?_)
  conv => whnf
  exact h
/-- the model's count -/
def mb (x : Int32) : Nat → Int32
  | 0 => 0
  | j + 1 => mb x j + (x >>> (nI j &&& 31) &&& 1)
theorem c_MD_bits (Ω : Om) (M : Mem) (x : Int32) (K : Ka) (h : K (some (vI (mb x 10))) M) : CallS Ω true m_MD_bits [vI x] M K := by
  refine call_go (hJL rfl) (Nat.le_of_ble_eq_true rfl) (go_wp ok_MD_bits [4] 250 _ _ _ _ _ _ ?_)
  conv => whnf
  refine upN 10 (fun j => GoS Ω true m_MD_bits K 4 [some (vI x), some (vI (mb x j)), some (vI (nI j))] [] M 0 0) ?_ ?_ 0 (Nat.zero_le _)
  · intro j hj hN
    refine go_wp ok_MD_bits [4] 250 _ _ _ _ _ _ ?_
    refine And.intro (fun a => absurd a (nI_ge (b := 10) (by omega) (by decide))) (fun _ => ?_)
    conv => whnf
    rw [mb, ← nI_1] at hN
    exact hN
  · refine go_wp ok_MD_bits [] 250 _ _ _ _ _ _ ?_
    exact And.intro (fun _ => h) (fun a => absurd (Int32.le_refl _) a)
