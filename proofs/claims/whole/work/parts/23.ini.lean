/-! WHAT ALL OBJECTS HOLD ONCE THEY ARE MADE -/
def iC (k : Nat) : Nat :=
 (cond (Nat.ble k 69)
 (cond (Nat.ble k 34)
 (cond (Nat.ble k 16)
 (cond (Nat.ble k 7)
 (cond (Nat.ble k 3)
 (cond (Nat.ble k 1)
 (cond (Nat.ble k 0)
 (4)
 (1))
 (cond (Nat.ble k 2)
 (18)
 (32)))
 (cond (Nat.ble k 5)
 (cond (Nat.ble k 4)
 (1)
 (1))
 (cond (Nat.ble k 6)
 (1)
 (4))))
 (cond (Nat.ble k 11)
 (cond (Nat.ble k 9)
 (cond (Nat.ble k 8)
 (1)
 (1))
 (cond (Nat.ble k 10)
 (16)
 (1)))
 (cond (Nat.ble k 13)
 (cond (Nat.ble k 12)
 (1)
 (4))
 (cond (Nat.ble k 14)
 (4)
 (cond (Nat.ble k 15)
 (4)
 (4))))))
 (cond (Nat.ble k 25)
 (cond (Nat.ble k 20)
 (cond (Nat.ble k 18)
 (cond (Nat.ble k 17)
 (4)
 (1))
 (cond (Nat.ble k 19)
 (1)
 (1)))
 (cond (Nat.ble k 22)
 (cond (Nat.ble k 21)
 (1)
 (1))
 (cond (Nat.ble k 23)
 (18)
 (cond (Nat.ble k 24)
 (18)
 (18)))))
 (cond (Nat.ble k 29)
 (cond (Nat.ble k 27)
 (cond (Nat.ble k 26)
 (18)
 (32))
 (cond (Nat.ble k 28)
 (32)
 (1)))
 (cond (Nat.ble k 31)
 (cond (Nat.ble k 30)
 (1)
 (1))
 (cond (Nat.ble k 32)
 (1)
 (cond (Nat.ble k 33)
 (1)
 (1)))))))
 (cond (Nat.ble k 51)
 (cond (Nat.ble k 42)
 (cond (Nat.ble k 38)
 (cond (Nat.ble k 36)
 (cond (Nat.ble k 35)
 (1)
 (1))
 (cond (Nat.ble k 37)
 (1)
 (1)))
 (cond (Nat.ble k 40)
 (cond (Nat.ble k 39)
 (1)
 (1))
 (cond (Nat.ble k 41)
 (1)
 (4))))
 (cond (Nat.ble k 46)
 (cond (Nat.ble k 44)
 (cond (Nat.ble k 43)
 (4)
 (4))
 (cond (Nat.ble k 45)
 (4)
 (4)))
 (cond (Nat.ble k 48)
 (cond (Nat.ble k 47)
 (4)
 (4))
 (cond (Nat.ble k 49)
 (1)
 (cond (Nat.ble k 50)
 (1)
 (1))))))
 (cond (Nat.ble k 60)
 (cond (Nat.ble k 55)
 (cond (Nat.ble k 53)
 (cond (Nat.ble k 52)
 (1)
 (1))
 (cond (Nat.ble k 54)
 (1)
 (1)))
 (cond (Nat.ble k 57)
 (cond (Nat.ble k 56)
 (1)
 (16))
 (cond (Nat.ble k 58)
 (16)
 (cond (Nat.ble k 59)
 (16)
 (16)))))
 (cond (Nat.ble k 64)
 (cond (Nat.ble k 62)
 (cond (Nat.ble k 61)
 (16)
 (16))
 (cond (Nat.ble k 63)
 (1)
 (1)))
 (cond (Nat.ble k 66)
 (cond (Nat.ble k 65)
 (1)
 (1))
 (cond (Nat.ble k 67)
 (1)
 (cond (Nat.ble k 68)
 (1)
 (1))))))))
 (cond (Nat.ble k 104)
 (cond (Nat.ble k 86)
 (cond (Nat.ble k 77)
 (cond (Nat.ble k 73)
 (cond (Nat.ble k 71)
 (cond (Nat.ble k 70)
 (1)
 (1))
 (cond (Nat.ble k 72)
 (1)
 (1)))
 (cond (Nat.ble k 75)
 (cond (Nat.ble k 74)
 (1)
 (1))
 (cond (Nat.ble k 76)
 (1)
 (1))))
 (cond (Nat.ble k 81)
 (cond (Nat.ble k 79)
 (cond (Nat.ble k 78)
 (1)
 (1))
 (cond (Nat.ble k 80)
 (1)
 (1)))
 (cond (Nat.ble k 83)
 (cond (Nat.ble k 82)
 (1)
 (1))
 (cond (Nat.ble k 84)
 (1)
 (cond (Nat.ble k 85)
 (1)
 (1))))))
 (cond (Nat.ble k 95)
 (cond (Nat.ble k 90)
 (cond (Nat.ble k 88)
 (cond (Nat.ble k 87)
 (1)
 (1))
 (cond (Nat.ble k 89)
 (1)
 (1)))
 (cond (Nat.ble k 92)
 (cond (Nat.ble k 91)
 (1)
 (1))
 (cond (Nat.ble k 93)
 (1)
 (cond (Nat.ble k 94)
 (1)
 (1)))))
 (cond (Nat.ble k 99)
 (cond (Nat.ble k 97)
 (cond (Nat.ble k 96)
 (1)
 (1))
 (cond (Nat.ble k 98)
 (1)
 (1)))
 (cond (Nat.ble k 101)
 (cond (Nat.ble k 100)
 (1)
 (1))
 (cond (Nat.ble k 102)
 (1)
 (cond (Nat.ble k 103)
 (1)
 (1)))))))
 (cond (Nat.ble k 122)
 (cond (Nat.ble k 113)
 (cond (Nat.ble k 108)
 (cond (Nat.ble k 106)
 (cond (Nat.ble k 105)
 (1)
 (1))
 (cond (Nat.ble k 107)
 (1)
 (1)))
 (cond (Nat.ble k 110)
 (cond (Nat.ble k 109)
 (1)
 (1))
 (cond (Nat.ble k 111)
 (1)
 (cond (Nat.ble k 112)
 (1)
 (1)))))
 (cond (Nat.ble k 117)
 (cond (Nat.ble k 115)
 (cond (Nat.ble k 114)
 (1)
 (1))
 (cond (Nat.ble k 116)
 (1)
 (1)))
 (cond (Nat.ble k 119)
 (cond (Nat.ble k 118)
 (1)
 (1))
 (cond (Nat.ble k 120)
 (1)
 (cond (Nat.ble k 121)
 (1)
 (1))))))
 (cond (Nat.ble k 131)
 (cond (Nat.ble k 126)
 (cond (Nat.ble k 124)
 (cond (Nat.ble k 123)
 (1)
 (1))
 (cond (Nat.ble k 125)
 (1)
 (1)))
 (cond (Nat.ble k 128)
 (cond (Nat.ble k 127)
 (1)
 (1))
 (cond (Nat.ble k 129)
 (1)
 (cond (Nat.ble k 130)
 (1)
 (1)))))
 (cond (Nat.ble k 135)
 (cond (Nat.ble k 133)
 (cond (Nat.ble k 132)
 (1)
 (1))
 (cond (Nat.ble k 134)
 (1)
 (1)))
 (cond (Nat.ble k 137)
 (cond (Nat.ble k 136)
 (1)
 (1))
 (cond (Nat.ble k 138)
 (1)
 (cond (Nat.ble k 139)
 (1)
 (1)))))))))
def iI (k s : Nat) : Int32 :=
 (cond (Nat.ble k 11)
 (cond (Nat.ble k 10)
 (cond (Nat.beq k 10) (cond (Nat.beq s 6) 200 0) 0)
 (cond (Nat.beq k 11) (cond (Nat.beq s 2) (-1) (cond (Nat.beq s 5) (-1) 0)) 0))
 (cond (Nat.ble k 12)
 (cond (Nat.beq k 12) (cond (Nat.beq s 17) (-1) (cond (Nat.beq s 19) (-1) 0)) 0)
 (cond (Nat.ble k 22)
 (cond (Nat.beq k 22) (-1000) 0)
 (cond (Nat.beq k 132) (-1000) 0))))
def iJ (k s : Nat) : Int64 :=
 (cond (Nat.ble k 49)
 (cond (Nat.beq k 49) (([8798, 91888, 4439075, 459655, 1503, 82528, 10497768, 10553884, 257140, 249, 419, 423, 1111, 10631, 10334702, 242939, 12403754, 11088623, 47, 10416091, 43393, 90302] : List Int64).getD s 0) 0)
 (cond (Nat.ble k 53)
 (cond (Nat.beq k 53) (-1000000000000) 0)
 (cond (Nat.beq k 73) (([8798, 91888, 4439075, 459655, 1503, 82528, 10497768, 10553884, 257140, 419, 249, 423, 1111, 10631, 10334702, 242939, 12403754, 11088623, 47, 10416091, 43393, 90302] : List Int64).getD s 0) 0)))
def iR (k i s : Nat) : Rf := (srU k i s).getD none
def kSz (k : Nat) : Nat := match kd0 k with
  | .inl ci => clN ci
  | .inr (_, n) => n
def Fine (M : Mem) (k i : Nat) : Prop := ∀ s, s < kSz k → mI M k i s = iI k s ∧ mJ M k i s = iJ k s ∧ mR M k i s = iR k i s
/-- all that is made is as it is to be, but for those that are still open -/
def IV (M : Mem) (op : List (Nat × Nat)) : Prop := ∀ k i, k < kK → i < mC M k → (k, i) ∉ op → Fine M k i
theorem IV.new {M : Mem} {op : List (Nat × Nat)} {k : Nat} (h : IV M op) : IV (sNew M k) ((k, mC M k) :: op) := by
  intro k' i' hk hi hno s hs
  have h1 : ¬ (k' = k ∧ i' = mC M k) := fun q => hno (by rw [q.1, q.2]; exact List.mem_cons_self)
  have h2 : i' < mC M k' := by
    rw [mC_sNew] at hi
    split at hi
    next e => subst e; have : ¬ i' = mC M k' := fun q => h1 ⟨rfl, q⟩; omega
    next e => exact hi
  rw [mI_sNew, mJ_sNew, mR_sNew, if_neg h1, if_neg h1, if_neg h1]
  exact h k' i' hk h2 (fun q => hno (List.mem_cons_of_mem _ q)) s hs
theorem IV.newA {M : Mem} {op : List (Nat × Nat)} {k : Nat} (h : IV M op) (hz : ∀ i s, iI k s = 0 ∧ iJ k s = 0 ∧ iR k i s = none) : IV (sNew M k) op := by
  intro k' i' hk hi hno s hs
  by_cases h1 : k' = k ∧ i' = mC M k
  · rw [mI_sNew, mJ_sNew, mR_sNew, if_pos h1, if_pos h1, if_pos h1, h1.1]
    exact ⟨(hz i' s).1.symm, (hz i' s).2.1.symm, (hz i' s).2.2.symm⟩
  · exact IV.new h k' i' hk hi (fun q => by
      rcases List.mem_cons.mp q with q | q
      · exact h1 ⟨(Prod.mk.inj q).1, (Prod.mk.inj q).2⟩
      · exact hno q) s hs
theorem IV.putI {M : Mem} {op : List (Nat × Nat)} {k i s : Nat} {x : Int32} (h : IV M op) (ho : (k, i) ∈ op) : IV (sI M k i s x) op := by
  intro k' i' hk hi hno s' hs
  have h1 : ¬ (k' = k ∧ i' = i ∧ s' = s) := fun q => hno (by rw [q.1, q.2.1]; exact ho)
  rw [mI_sI, if_neg h1, mJ_sI, mR_sI]
  exact h k' i' hk hi hno s' hs
theorem IV.putJ {M : Mem} {op : List (Nat × Nat)} {k i s : Nat} {x : Int64} (h : IV M op) (ho : (k, i) ∈ op) : IV (sJ M k i s x) op := by
  intro k' i' hk hi hno s' hs
  have h1 : ¬ (k' = k ∧ i' = i ∧ s' = s) := fun q => hno (by rw [q.1, q.2.1]; exact ho)
  rw [mJ_sJ, if_neg h1, mI_sJ, mR_sJ]
  exact h k' i' hk hi hno s' hs
theorem IV.putR {M : Mem} {op : List (Nat × Nat)} {k i s : Nat} {x : Rf} (h : IV M op) (ho : (k, i) ∈ op) : IV (sR M k i s x) op := by
  intro k' i' hk hi hno s' hs
  have h1 : ¬ (k' = k ∧ i' = i ∧ s' = s) := fun q => hno (by rw [q.1, q.2.1]; exact ho)
  rw [mR_sR, if_neg h1, mI_sR, mJ_sR]
  exact h k' i' hk hi hno s' hs
theorem IV.close {M : Mem} {op : List (Nat × Nat)} {k i : Nat} (h : IV M ((k, i) :: op)) (hf : Fine M k i) : IV M op := by
  intro k' i' hk hi hno
  by_cases h1 : (k', i') = (k, i)
  · cases h1; exact hf
  · exact h k' i' hk hi (fun q => (List.mem_cons.mp q).elim h1 hno)
/-- the kinds outside ks are untouched -/
def Unch (ks : List Nat) (M M' : Mem) : Prop := ∀ k, k ∉ ks → ∀ i s, mI M' k i s = mI M k i s ∧ mJ M' k i s = mJ M k i s ∧ mR M' k i s = mR M k i s
theorem Unch.rfl {ks : List Nat} {M : Mem} : Unch ks M M := fun _ _ _ _ => ⟨Eq.refl _, Eq.refl _, Eq.refl _⟩
theorem Unch.trans {ks : List Nat} {M M' M'' : Mem} (h : Unch ks M M') (h' : Unch ks M' M'') : Unch ks M M'' := fun k hk i s => ⟨(h' k hk i s).1.trans (h k hk i s).1, (h' k hk i s).2.1.trans (h k hk i s).2.1, (h' k hk i s).2.2.trans (h k hk i s).2.2⟩
theorem Unch.mono {ks ks' : List Nat} {M M' : Mem} (hs : ∀ k, k ∈ ks → k ∈ ks') (h : Unch ks M M') : Unch ks' M M' := fun k hk => h k (fun q => hk (hs k q))
theorem Unch.new {ks : List Nat} {M M' : Mem} {k : Nat} (h : Unch ks M M') (hk : k ∈ ks) : Unch ks M (sNew M' k) := fun k' hk' i s => by
  have h1 : ¬ (k' = k ∧ i = mC M' k) := fun q => hk' (by rw [q.1]; exact hk)
  rw [mI_sNew, mJ_sNew, mR_sNew, if_neg h1, if_neg h1, if_neg h1]
  exact h k' hk' i s
theorem Unch.putI {ks : List Nat} {M M' : Mem} {k i s : Nat} {x : Int32} (h : Unch ks M M') (hk : k ∈ ks) : Unch ks M (sI M' k i s x) := fun k' hk' i' s' => by
  have h1 : ¬ (k' = k ∧ i' = i ∧ s' = s) := fun q => hk' (by rw [q.1]; exact hk)
  rw [mI_sI, if_neg h1, mJ_sI, mR_sI]
  exact h k' hk' i' s'
theorem Unch.putJ {ks : List Nat} {M M' : Mem} {k i s : Nat} {x : Int64} (h : Unch ks M M') (hk : k ∈ ks) : Unch ks M (sJ M' k i s x) := fun k' hk' i' s' => by
  have h1 : ¬ (k' = k ∧ i' = i ∧ s' = s) := fun q => hk' (by rw [q.1]; exact hk)
  rw [mJ_sJ, if_neg h1, mI_sJ, mR_sJ]
  exact h k' hk' i' s'
theorem Unch.putR {ks : List Nat} {M M' : Mem} {k i s : Nat} {x : Rf} (h : Unch ks M M') (hk : k ∈ ks) : Unch ks M (sR M' k i s x) := fun k' hk' i' s' => by
  have h1 : ¬ (k' = k ∧ i' = i ∧ s' = s) := fun q => hk' (by rw [q.1]; exact hk)
  rw [mR_sR, if_neg h1, mI_sR, mJ_sR]
  exact h k' hk' i' s'
theorem Unch.cp {ks : List Nat} {M M' : Mem} {k i k2 i2 a b n : Nat} (h : Unch ks M M') (hk : k2 ∈ ks) : Unch ks M (sCpJ M' k i k2 i2 a b n) := fun k' hk' i' s' => by
  have h1 : ¬ (k' = k2 ∧ i' = i2) := fun q => hk' (by rw [q.1]; exact hk)
  refine ⟨(h k' hk' i' s').1, ?_, (h k' hk' i' s').2.2⟩
  rw [← (h k' hk' i' s').2.1]
  unfold mJ sCpJ
  show (if k' = k2 ∧ i' = i2 then (_ : Nat → Int64) else _) s' = _
  rw [if_neg h1]
/-- how many of each kind there are more -/
def Cnt (ks : List Nat) (M M' : Mem) : Prop := ∀ k, mC M' k = mC M k + ks.count k
theorem Cnt.rfl {M : Mem} : Cnt [] M M := fun _ => Eq.refl _
theorem Cnt.new {ks : List Nat} {M M' : Mem} {k : Nat} (h : Cnt ks M M') : Cnt (k :: ks) M (sNew M' k) := fun k' => by
  rw [mC_sNew, List.count_cons]
  by_cases e : k' = k
  · subst e
    simp [h k', Nat.add_assoc]
  · rw [if_neg e, h k']
    simp [Ne.symm e]
theorem Cnt.putI {ks : List Nat} {M M' : Mem} {k i s : Nat} {x : Int32} (h : Cnt ks M M') : Cnt ks M (sI M' k i s x) := h
theorem Cnt.putJ {ks : List Nat} {M M' : Mem} {k i s : Nat} {x : Int64} (h : Cnt ks M M') : Cnt ks M (sJ M' k i s x) := h
theorem Cnt.putR {ks : List Nat} {M M' : Mem} {k i s : Nat} {x : Rf} (h : Cnt ks M M') : Cnt ks M (sR M' k i s x) := h
theorem Cnt.app {ks ks' : List Nat} {M M' M'' : Mem} (h : Cnt ks M M') (h' : Cnt ks' M' M'') : Cnt (ks' ++ ks) M M'' := fun k => by
  rw [h' k, h k, List.count_append]; omega
/-- a cell as it is when it is new -/
def Zer (M : Mem) (k i : Nat) : Prop := ∀ s, mI M k i s = 0 ∧ mJ M k i s = 0 ∧ mR M k i s = none
theorem Zer.new {M : Mem} {k : Nat} : Zer (sNew M k) k (mC M k) := fun s => by
  rw [mI_sNew, mJ_sNew, mR_sNew, if_pos ⟨Eq.refl _, Eq.refl _⟩, if_pos ⟨Eq.refl _, Eq.refl _⟩, if_pos ⟨Eq.refl _, Eq.refl _⟩]
  exact ⟨Eq.refl _, Eq.refl _, Eq.refl _⟩
set_option maxHeartbeats 4000000 in
theorem c_Flow_init (Ω : Om) (M : Mem) (f : Nat) (op : List (Nat × Nat)) (K : Ka) (hI : IV M ((2, f) :: op)) (hz : Zer M 2 f) (hc : mC M 23 = f ∧ mC M 24 = f ∧ mC M 25 = f ∧ mC M 26 = f) (hK : ∀ M', IV M' op → Cnt [26, 25, 24, 23] M M' → Unch [2, 23, 24, 25, 26] M M' → K none M') : CallS Ω false m_Flow_init [vR (some (2, f))] M K := by
  refine call_go (hJL rfl) (Nat.le_of_ble_eq_true rfl) (go_wp ok_Flow_init [] 100 _ _ _ _ _ _ ?_)
  conv => whnf
  repeat' (first | refine And.intro rfl (And.intro ⟨Nat.le_of_ble_eq_true rfl, Nat.le_of_ble_eq_true rfl⟩ ?_) | refine And.intro (Or.inl rfl) ?_; conv => whnf)
  refine hK _ (IV.close (k := 2) (i := f) ?_ ?_) ?_ ?_
  · repeat' (first | exact hI | refine IV.putI ?_ List.mem_cons_self | refine IV.putJ ?_ List.mem_cons_self | refine IV.putR ?_ List.mem_cons_self | refine IV.newA ?_ (fun _ _ => ⟨rfl, rfl, rfl⟩))
  · obtain ⟨h0, h1, h2, h3⟩ := hc
    intro s hs
    have hs : s < 7 := hs
    rcases (show s = 0 ∨ s = 1 ∨ s = 2 ∨ s = 3 ∨ s = 4 ∨ s = 5 ∨ s = 6 by omega) with rfl | rfl | rfl | rfl | rfl | rfl | rfl <;> (refine ⟨?_, ?_, ?_⟩ <;> first | rfl | (simp [mI_sI, mI_sJ, mI_sR, mI_sNew, mJ_sI, mJ_sJ, mJ_sR, mJ_sNew, mR_sI, mR_sJ, mR_sR, mR_sNew, mC_sI, mC_sJ, mC_sR, mC_sNew, h0, h1, h2, h3, (hz _).1, (hz _).2.1, (hz _).2.2]; try rfl))
  · repeat' (first | exact Cnt.rfl | refine Cnt.putI ?_ | refine Cnt.putJ ?_ | refine Cnt.putR ?_ | refine Cnt.new ?_)
  · repeat' (first | exact Unch.rfl | refine Unch.putI ?_ (by simp) | refine Unch.putJ ?_ (by simp) | refine Unch.putR ?_ (by simp) | refine Unch.new ?_ (by simp))
set_option maxHeartbeats 4000000 in
theorem c_Law_init (Ω : Om) (M : Mem) (f : Nat) (op : List (Nat × Nat)) (K : Ka) (hI : IV M ((3, f) :: op)) (hz : Zer M 3 f) (hc : mC M 27 = f ∧ mC M 28 = f) (hK : ∀ M', IV M' op → Cnt [28, 27] M M' → Unch [3, 27, 28] M M' → K none M') : CallS Ω false m_Law_init [vR (some (3, f))] M K := by
  refine call_go (hJL rfl) (Nat.le_of_ble_eq_true rfl) (go_wp ok_Law_init [] 100 _ _ _ _ _ _ ?_)
  conv => whnf
  repeat' (first | refine And.intro rfl (And.intro ⟨Nat.le_of_ble_eq_true rfl, Nat.le_of_ble_eq_true rfl⟩ ?_) | refine And.intro (Or.inl rfl) ?_; conv => whnf)
  refine hK _ (IV.close (k := 3) (i := f) ?_ ?_) ?_ ?_
  · repeat' (first | exact hI | refine IV.putI ?_ List.mem_cons_self | refine IV.putJ ?_ List.mem_cons_self | refine IV.putR ?_ List.mem_cons_self | refine IV.newA ?_ (fun _ _ => ⟨rfl, rfl, rfl⟩))
  · obtain ⟨h0, h1⟩ := hc
    intro s hs
    have hs : s < 3 := hs
    rcases (show s = 0 ∨ s = 1 ∨ s = 2 by omega) with rfl | rfl | rfl <;> (refine ⟨?_, ?_, ?_⟩ <;> first | rfl | (simp [mI_sI, mI_sJ, mI_sR, mI_sNew, mJ_sI, mJ_sJ, mJ_sR, mJ_sNew, mR_sI, mR_sJ, mR_sR, mR_sNew, mC_sI, mC_sJ, mC_sR, mC_sNew, h0, h1, (hz _).1, (hz _).2.1, (hz _).2.2]; try rfl))
  · repeat' (first | exact Cnt.rfl | refine Cnt.putI ?_ | refine Cnt.putJ ?_ | refine Cnt.putR ?_ | refine Cnt.new ?_)
  · repeat' (first | exact Unch.rfl | refine Unch.putI ?_ (by simp) | refine Unch.putJ ?_ (by simp) | refine Unch.putR ?_ (by simp) | refine Unch.new ?_ (by simp))
set_option maxHeartbeats 4000000 in
theorem c_Bars_init (Ω : Om) (M : Mem) (f : Nat) (op : List (Nat × Nat)) (K : Ka) (hI : IV M ((0, f) :: op)) (hz : Zer M 0 f) (hc : mC M 13 = f ∧ mC M 14 = f ∧ mC M 15 = f ∧ mC M 16 = f ∧ mC M 17 = f) (hK : ∀ M', IV M' op → Cnt [17, 16, 15, 14, 13] M M' → Unch [0, 13, 14, 15, 16, 17] M M' → K none M') : CallS Ω false m_Bars_init [vR (some (0, f))] M K := by
  refine call_go (hJL rfl) (Nat.le_of_ble_eq_true rfl) (go_wp ok_Bars_init [] 100 _ _ _ _ _ _ ?_)
  conv => whnf
  repeat' (first | refine And.intro rfl (And.intro ⟨Nat.le_of_ble_eq_true rfl, Nat.le_of_ble_eq_true rfl⟩ ?_) | refine And.intro (Or.inl rfl) ?_; conv => whnf)
  refine hK _ (IV.close (k := 0) (i := f) ?_ ?_) ?_ ?_
  · repeat' (first | exact hI | refine IV.putI ?_ List.mem_cons_self | refine IV.putJ ?_ List.mem_cons_self | refine IV.putR ?_ List.mem_cons_self | refine IV.newA ?_ (fun _ _ => ⟨rfl, rfl, rfl⟩))
  · obtain ⟨h0, h1, h2, h3, h4⟩ := hc
    intro s hs
    have hs : s < 9 := hs
    rcases (show s = 0 ∨ s = 1 ∨ s = 2 ∨ s = 3 ∨ s = 4 ∨ s = 5 ∨ s = 6 ∨ s = 7 ∨ s = 8 by omega) with rfl | rfl | rfl | rfl | rfl | rfl | rfl | rfl | rfl <;> (refine ⟨?_, ?_, ?_⟩ <;> first | rfl | (simp [mI_sI, mI_sJ, mI_sR, mI_sNew, mJ_sI, mJ_sJ, mJ_sR, mJ_sNew, mR_sI, mR_sJ, mR_sR, mR_sNew, mC_sI, mC_sJ, mC_sR, mC_sNew, h0, h1, h2, h3, h4, (hz _).1, (hz _).2.1, (hz _).2.2]; try rfl))
  · repeat' (first | exact Cnt.rfl | refine Cnt.putI ?_ | refine Cnt.putJ ?_ | refine Cnt.putR ?_ | refine Cnt.new ?_)
  · repeat' (first | exact Unch.rfl | refine Unch.putI ?_ (by simp) | refine Unch.putJ ?_ (by simp) | refine Unch.putR ?_ (by simp) | refine Unch.new ?_ (by simp))
