/-! THE MODEL'S CONSTRUCTOR -/
def mdMore (x : Int64) (c : Int32) : Int64 := if c = 0 then x else 27 * x + (c - 97 + 1).toInt64
theorem c_MD_more (Ω : Om) (md : Bool) (M : Mem) (x : Int64) (c : Int32) (K : Ka) (h : K (some (vJ (mdMore x c))) M) : CallS Ω md m_MD_more [vJ x, vI c] M K := by
  refine call_go (hJL rfl) (Nat.le_of_ble_eq_true rfl) (go_wp ok_MD_more [] 50 _ _ _ _ _ _ ?_)
  conv => whnf
  refine And.intro (fun g => ?_) (fun g => ?_)
  · conv => whnf
    rw [mdMore, if_neg g] at h
    exact h
  · rw [mdMore, if_pos g] at h
    exact h
def mdWord (a b c d e f g : Int32) : Int64 := mdMore (mdMore (mdMore (mdMore (mdMore (mdMore (mdMore 0 a) b) c) d) e) f) g
theorem c_MD_word (Ω : Om) (M : Mem) (a b c d e f g : Int32) (K : Ka) (h : K (some (vJ (mdWord a b c d e f g))) M) : CallS Ω false m_MD_word [vI a, vI b, vI c, vI d, vI e, vI f, vI g] M K := by
  refine call_go (hJL rfl) (Nat.le_of_ble_eq_true rfl) (go_wp ok_MD_word [] 50 _ _ _ _ _ _ ?_)
  conv => whnf
  repeat' (refine cl_use (fun K h => c_MD_more Ω false M _ _ K h) ⟨Nat.le_of_ble_eq_true rfl, Nat.le_of_ble_eq_true rfl⟩ ?_; conv => whnf)
  exact h
/-- the field that holds the array of kind 67 + j -/
def mdS (j : Nat) : Nat := ([1, 3, 5, 6, 7, 8, 9, 21, 22, 23, 24, 25, 26, 27, 28, 29, 30, 31, 32, 33, 34, 35, 36, 37, 38, 39, 40, 41, 42, 43, 44, 45, 46, 47, 49, 50, 51, 52, 53, 54, 56, 57, 59, 61, 62, 64, 65, 66, 67, 68, 69, 70, 80, 81, 82, 83, 84, 85, 87, 88, 89, 90, 91, 93, 94, 95, 96, 98, 99, 100, 101, 102, 103, 104] : List Nat).getD j 0
/-- the references of the model, once the arrays of kinds below 67 + j are made -/
def mdF (j s : Nat) : Rf := match srT 12 0 s with
  | some (some (k, _)) => cond (Nat.ble (67 + j) k) none (some (k, 0))
  | _ => none
def mdStep : Bool := (List.range 74).all fun j => (List.range 105).all fun s => decide (mdF (j + 1) s = if s = mdS j then some (67 + j, 0) else mdF j s)
theorem mdStep_ok : mdStep = true := by decide +kernel
theorem mdF_step {j s : Nat} (hj : j < 74) (hs : s < 105) : mdF (j + 1) s = if s = mdS j then some (67 + j, 0) else mdF j s := of_decide_eq_true (List.all_eq_true.mp (List.all_eq_true.mp mdStep_ok j (List.mem_range.mpr hj)) s (List.mem_range.mpr hs))
def mdNone : Bool := (List.range 105).all fun s => decide (mdF 0 s = none) && decide (mdF 74 s = iR 12 0 s)
theorem mdNone_ok : mdNone = true := by decide +kernel
theorem mdF_ends {s : Nat} (hs : s < 105) : mdF 0 s = none ∧ mdF 74 s = iR 12 0 s := by
  have h := List.all_eq_true.mp mdNone_ok s (List.mem_range.mpr hs)
  rw [Bool.and_eq_true] at h
  exact ⟨of_decide_eq_true h.1, of_decide_eq_true h.2⟩
def mdU : List Nat := 12 :: List.range' 67 74
def mdG (b : Bool) (s : Nat) : Int32 := cond b (iI 12 s) 0
/-- when j arrays of the model are made -/
def MA (op : List (Nat × Nat)) (b : Bool) (j : Nat) (M M' : Mem) : Prop :=
  IV M' ((132, 0) :: (73, 0) :: (12, 0) :: op) ∧ (∀ k, mC M' k = mC M k + cond (Nat.ble 67 k && Nat.ble (k + 1) (67 + j)) 1 0) ∧ Unch mdU M M' ∧ (∀ s, s < 105 → mI M' 12 0 s = mdG b s ∧ mJ M' 12 0 s = 0 ∧ mR M' 12 0 s = mdF j s) ∧ (6 < j → Zer M' 73 0) ∧ (65 < j → Zer M' 132 0)
theorem MA.iv {op : List (Nat × Nat)} {b : Bool} {j : Nat} {M M' : Mem} (h : MA op b j M M') : IV M' ((132, 0) :: (73, 0) :: (12, 0) :: op) := h.1
theorem MA.ct {op : List (Nat × Nat)} {b : Bool} {j : Nat} {M M' : Mem} (h : MA op b j M M') : ∀ k, mC M' k = mC M k + cond (Nat.ble 67 k && Nat.ble (k + 1) (67 + j)) 1 0 := h.2.1
theorem MA.un {op : List (Nat × Nat)} {b : Bool} {j : Nat} {M M' : Mem} (h : MA op b j M M') : Unch mdU M M' := h.2.2.1
theorem MA.rw_ {op : List (Nat × Nat)} {b : Bool} {j : Nat} {M M' : Mem} (h : MA op b j M M') : ∀ s, s < 105 → mI M' 12 0 s = mdG b s ∧ mJ M' 12 0 s = 0 ∧ mR M' 12 0 s = mdF j s := h.2.2.2.1
theorem MA.z7 {op : List (Nat × Nat)} {b : Bool} {j : Nat} {M M' : Mem} (h : MA op b j M M') : 6 < j → Zer M' 73 0 := h.2.2.2.2.1
theorem MA.zb {op : List (Nat × Nat)} {b : Bool} {j : Nat} {M M' : Mem} (h : MA op b j M M') : 65 < j → Zer M' 132 0 := h.2.2.2.2.2
theorem mdU_mem {j : Nat} (hj : j < 74) : 67 + j ∈ mdU := List.mem_cons_of_mem _ (List.mem_range'_1.mpr ⟨by omega, by omega⟩)
theorem ble_no {a b : Nat} (h : ¬ a ≤ b) : Nat.ble a b = false := by
  cases e : Nat.ble a b with
  | false => rfl
  | true => exact absurd (Nat.le_of_ble_eq_true e) h
theorem MA.c0 {op : List (Nat × Nat)} {b : Bool} {j : Nat} {M M' : Mem} (h : MA op b j M M') (hm : ∀ k, 67 ≤ k → k < 141 → mC M k = 0) (hj : j < 74) : mC M' (67 + j) = 0 := by
  rw [h.ct, hm (67 + j) (by omega) (by omega), ble_no (show ¬ 67 + j + 1 ≤ 67 + j by omega), Bool.and_false]
  rfl
theorem ct_step {k j : Nat} : (cond (Nat.ble 67 k && Nat.ble (k + 1) (67 + (j + 1))) 1 0 : Nat) = if k = 67 + j then 1 else cond (Nat.ble 67 k && Nat.ble (k + 1) (67 + j)) 1 0 := by
  by_cases e : k = 67 + j
  · subst e
    rw [if_pos rfl, Nat.ble_eq_true_of_le (by omega), Nat.ble_eq_true_of_le (by omega)]
    rfl
  · rw [if_neg e]
    by_cases g : k + 1 ≤ 67 + j
    · rw [Nat.ble_eq_true_of_le g, Nat.ble_eq_true_of_le (show k + 1 ≤ 67 + (j + 1) by omega)]
    · rw [ble_no g, ble_no (show ¬ k + 1 ≤ 67 + (j + 1) by omega)]
theorem MA.step {op : List (Nat × Nat)} {b : Bool} {j : Nat} {M M' : Mem} (h : MA op b j M M') (hm : ∀ k, 67 ≤ k → k < 141 → mC M k = 0) (hj : j < 74) (hz : j = 6 ∨ j = 65 ∨ ∀ i s, iI (67 + j) s = 0 ∧ iJ (67 + j) s = 0 ∧ iR (67 + j) i s = none) : MA op b (j + 1) M (sR (sNew M' (67 + j)) 12 0 (mdS j) (some (67 + j, 0))) := by
  have hc := h.c0 hm hj
  refine ⟨IV.putR ?_ (by simp), fun k => ?_, Unch.putR (Unch.new h.un (mdU_mem hj)) List.mem_cons_self, fun s hs => ?_, fun q s => ?_, fun q s => ?_⟩
  · rcases hz with rfl | rfl | hz
    · exact (IV.new' h.iv hc).sub (fun q hq => by
        rcases List.mem_cons.mp hq with rfl | hq
        · simp
        · exact hq)
    · exact (IV.new' h.iv hc).sub (fun q hq => by
        rcases List.mem_cons.mp hq with rfl | hq
        · simp
        · exact hq)
    · exact IV.newA h.iv hz
  · rw [mC_sR, mC_sNew, ct_step]
    by_cases e : k = 67 + j
    · subst e
      rw [if_pos rfl, if_pos rfl, hc, hm (67 + j) (by omega) (by omega)]
    · rw [if_neg e, if_neg e, h.ct]
  · have h1 : ¬ (12 = 67 + j ∧ 0 = mC M' (67 + j)) := fun q => by omega
    rw [mI_sR, mJ_sR, mR_sR, mI_sNew, mJ_sNew, mR_sNew, if_neg h1, if_neg h1, if_neg h1, mdF_step hj hs]
    refine ⟨(h.rw_ s hs).1, (h.rw_ s hs).2.1, ?_⟩
    by_cases e : s = mdS j
    · rw [if_pos ⟨rfl, rfl, e⟩, if_pos e]
    · rw [if_neg (fun q => e q.2.2), if_neg e]
      exact (h.rw_ s hs).2.2
  · have h1 : ¬ (73 = 12 ∧ 0 = 0 ∧ s = mdS j) := fun q => by omega
    rw [mI_sR, mJ_sR, mR_sR, if_neg h1, mI_sNew, mJ_sNew, mR_sNew]
    by_cases e : j = 6
    · subst e
      rw [if_pos ⟨rfl, hc.symm⟩, if_pos ⟨rfl, hc.symm⟩, if_pos ⟨rfl, hc.symm⟩]
      exact ⟨rfl, rfl, rfl⟩
    · have h2 : ¬ (73 = 67 + j ∧ 0 = mC M' (67 + j)) := fun q => by omega
      rw [if_neg h2, if_neg h2, if_neg h2]
      exact h.z7 (by omega) s
  · have h1 : ¬ (132 = 12 ∧ 0 = 0 ∧ s = mdS j) := fun q => by omega
    rw [mI_sR, mJ_sR, mR_sR, if_neg h1, mI_sNew, mJ_sNew, mR_sNew]
    by_cases e : j = 65
    · subst e
      rw [if_pos ⟨rfl, hc.symm⟩, if_pos ⟨rfl, hc.symm⟩, if_pos ⟨rfl, hc.symm⟩]
      exact ⟨rfl, rfl, rfl⟩
    · have h2 : ¬ (132 = 67 + j ∧ 0 = mC M' (67 + j)) := fun q => by omega
      rw [if_neg h2, if_neg h2, if_neg h2]
      exact h.zb (by omega) s
