/-! EACH INSTRUCTION, II: fields, rows, new cells -/
theorem zz_cl (ci : Nat) (h : ci < 13) : cl[ci]? = some (clR ci, clF ci, clN ci) := by
  match ci, h with
  | 0, _ => rfl
  | 1, _ => rfl
  | 2, _ => rfl
  | 3, _ => rfl
  | 4, _ => rfl
  | 5, _ => rfl
  | 6, _ => rfl
  | 7, _ => rfl
  | 8, _ => rfl
  | 9, _ => rfl
  | 10, _ => rfl
  | 11, _ => rfl
  | 12, _ => rfl
  | n + 13, h => exact absurd h (by omega)
/-- one list lies in another, in its order -/
def isSub : List Cond → List Cond → Bool
  | [], _ => true
  | _ :: _, [] => false
  | w :: ws, t :: ts => if w = t then isSub ws ts else isSub (w :: ws) ts
theorem isSub_mem : ∀ (ts ws : List Cond), isSub ws ts = true → ∀ w ∈ ws, w ∈ ts := by
  intro ts
  induction ts with
  | nil => intro ws h w hw; cases ws with
    | nil => cases hw
    | cons a ws => cases h
  | cons t ts ih =>
    intro ws h w hw
    cases ws with
    | nil => cases hw
    | cons a ws =>
      unfold isSub at h
      split at h
      next e =>
        rcases List.mem_cons.mp hw with rfl | hw
        · rw [e]; exact List.mem_cons_self
        · exact List.mem_cons_of_mem _ (ih ws h w hw)
      next e => exact List.mem_cons_of_mem _ (ih (a :: ws) h w hw)
theorem zz_tblw {w : Cond} (h : w ∈ tables_1) (hg : goodWord w = true) : w ∈ gw := List.mem_filter.mpr ⟨List.mem_append_right _ h, hg⟩
theorem zz_ordA : isSub (ordA.map (fun q => u_lay (clR q.1) (clF q.1) q.2)) tables_1 = true := by decide +kernel
theorem zz_ordG : (ordA.map (fun q => u_lay (clR q.1) (clF q.1) q.2)).all goodWord = true := by decide +kernel
theorem zz_ordI : (List.range 13).all (fun ci => (List.range (clN ci)).all (fun k => ordA.elem (ci, k))) = true := by decide +kernel
theorem zz_clin (ci : Nat) (h : ci < 13) : ∀ w ∈ u_ws (clR ci) (clF ci) (clN ci), w ∈ gw := by
  intro w hw
  obtain ⟨k, hk, rfl⟩ := List.mem_map.mp hw
  have h1 := List.all_eq_true.mp (List.all_eq_true.mp zz_ordI ci (List.mem_range.mpr h)) k hk
  have h2 : u_lay (clR ci) (clF ci) k ∈ ordA.map (fun q => u_lay (clR q.1) (clF q.1) q.2) := List.mem_map.mpr ⟨(ci, k), List.mem_of_elem_eq_true h1, rfl⟩
  exact zz_tblw (isSub_mem _ _ zz_ordA _ h2) (List.all_eq_true.mp zz_ordG _ h2)
theorem zz_clty : ∀ ci, ci < 13 → ∀ k, k < clN ci → parseFieldDescriptor (clF ci k).2.2.1 = some (clT ci k) := by
  intro ci h
  match ci, h with
  | 0, _ => exact tyX0_ok
  | 1, _ => exact tyX1_ok
  | 2, _ => exact tyX2_ok
  | 3, _ => exact tyX3_ok
  | 4, _ => exact tyX4_ok
  | 5, _ => exact tyX5_ok
  | 6, _ => exact tyX6_ok
  | 7, _ => exact tyX7_ok
  | 8, _ => exact tyX8_ok
  | 9, _ => exact tyX9_ok
  | 10, _ => exact tyX10_ok
  | 11, _ => exact tyX11_ok
  | 12, _ => exact tyX12_ok
  | n + 13, h => exact absurd h (by omega)
theorem zz_clnm : ∀ ci, ci < 13 → ∀ a, a < clN ci → ∀ b, b < clN ci → a ≠ b → (clF ci a).2.1 ≠ (clF ci b).2.1 := by
  intro ci h
  match ci, h with
  | 0, _ => exact nmX0
  | 1, _ => exact nmX1
  | 2, _ => exact nmX2
  | 3, _ => exact nmX3
  | 4, _ => exact nmX4
  | 5, _ => exact nmX5
  | 6, _ => exact nmX6
  | 7, _ => exact nmX7
  | 8, _ => exact nmX8
  | 9, _ => exact nmX9
  | 10, _ => exact nmX10
  | 11, _ => exact nmX11
  | 12, _ => exact nmX12
  | n + 13, h => exact absurd h (by omega)
theorem kd_eq (L k : Nat) (h : ¬ k = kSCR) : kd L k = kd0 k := by
  unfold kd
  rw [show Nat.beq k kSCR = false from by
    cases hb : Nat.beq k kSCR
    · rfl
    · exact absurd (Nat.eq_of_beq_eq_true hb) h]
  rfl
theorem kd_scr (L : Nat) : kd L kSCR = .inr (0, L) := rfl
theorem kd_sh (L : Nat) : kd L kSH = .inr (0, 10) := rfl
theorem kd_str (L : Nat) : kd L kSTR = .inr (99, 0) := rfl
/-- the classes of the objects, the tags of the rows -/
theorem zz_kdall : (List.range kK).all (fun k => match kd0 k with
  | .inl ci => decide (ci < 13)
  | .inr (t, n) => tagL.elem t && decide (n ≤ 3000)) = true := by decide +kernel
theorem kd_obj {L k ci : Nat} (hk : k < kK) (h : kd L k = .inl ci) : ci < 13 := by
  rw [kd_eq L k (by unfold kSCR; unfold kK at hk; omega)] at h
  have h1 := List.all_eq_true.mp zz_kdall k (List.mem_range.mpr hk)
  rw [h] at h1
  simpa using h1
theorem kd_row {L k t n : Nat} (hk : k < kK) (h : kd L k = .inr (t, n)) : t ∈ tagL ∧ n ≤ 3000 := by
  rw [kd_eq L k (by unfold kSCR; unfold kK at hk; omega)] at h
  have h1 := List.all_eq_true.mp zz_kdall k (List.mem_range.mpr hk)
  rw [h] at h1
  simp only [Bool.and_eq_true, decide_eq_true_eq] at h1
  exact ⟨List.mem_of_elem_eq_true h1.1, h1.2⟩
theorem okR_obj {L : Nat} {M : Mem} {k j ci : Nat} (h : okR M (k, j)) (hk : kd L k = .inl ci) : inW M (k, j) := by
  rcases h with h | ⟨-, h | h | h⟩
  · exact h
  · have h : k = kSCR := h
    subst h; rw [kd_scr] at hk; cases hk
  · have h : k = kSH := h
    subst h; rw [kd_sh] at hk; cases hk
  · have h : k = kSTR := h
    subst h; rw [kd_str] at hk; cases hk
theorem zz_fs {f : Nat → Value} {N s : Nat} (h : s < N) : ((List.range N).map f)[s]? = some (f s) := by
  rw [List.getElem?_map, List.getElem?_range h]
  rfl
theorem zz_fset {f g : Nat → Value} {N s : Nat} (hg : ∀ j, j ≠ s → g j = f j) : ((List.range N).map f).set s (g s) = (List.range N).map g := by
  apply List.ext_getElem?
  intro j
  rw [List.getElem?_set]
  by_cases hj : s = j
  · subst hj
    by_cases hN : s < N
    · simp [hN]
    · simp [hN]
  · rw [if_neg hj, List.getElem?_map, List.getElem?_map]
    cases hr : (List.range N)[j]? with
    | none => rfl
    | some x =>
      have hx : x = j := by
        obtain ⟨h1, h2⟩ := List.getElem?_eq_some_iff.mp hr
        rw [List.getElem_range] at h2
        exact h2.symm
      subst hx
      simp [hg x (Ne.symm hj)]
theorem rR_eq {Ω : Om} {md : Bool} {ad : Nat → Nat → Nat} {M : Mem} {H : Heap} (hR : RelW Ω md ad M H) {k j s : Nat} (h : inW M (k, j)) : rR md M k j s = mR M k j s := by
  unfold rR
  cases hs : sr md k j s with
  | none => rfl
  | some r => exact (hR.2.2.2.2.1 k j s r h hs).symm
/-- which field a place of the constants names -/
def wFL (o idx ci sl nest : Nat) : Cond := if nest = 0 then .fieldLink (ownR o) idx (clF ci sl).1 (clF ci sl).2.1 (clF ci sl).2.2.1 else .fieldLinkNest (ownR o) idx (clF ci sl).1 (clF ci sl).2.1 (clF ci sl).2.2.1 "WingHouse"
def wFx (x : Nat × Nat × Nat × Nat × Nat) : Cond := wFL x.1 x.2.1 x.2.2.1 x.2.2.2.1 x.2.2.2.2
theorem zz_FL : isSub (FL.map wFx) tables_1 = true := by decide +kernel
theorem zz_FLg : FL.all (fun x => decide (x.2.2.1 < 13) && (decide (x.2.2.2.1 < clN x.2.2.1) && (if x.2.2.2.2 = 0 then goodWord (wFx x) else true))) = true := by decide +kernel
theorem FL_ok {o idx ci sl nest : Nat} (h : (o, idx, ci, sl, nest) ∈ FL) : ci < 13 ∧ sl < clN ci ∧ ((nest = 0 ∧ Cond.fieldLink (ownR o) idx (clF ci sl).1 (clF ci sl).2.1 (clF ci sl).2.2.1 ∈ gw) ∨ (nest ≠ 0 ∧ Cond.fieldLinkNest (ownR o) idx (clF ci sl).1 (clF ci sl).2.1 (clF ci sl).2.2.1 "WingHouse" ∈ nw)) := by
  have h0 : wFL o idx ci sl nest ∈ tables_1 := isSub_mem _ _ zz_FL _ (List.mem_map.mpr ⟨_, h, rfl⟩)
  have h1 := List.all_eq_true.mp zz_FLg _ h
  simp only [Bool.and_eq_true, decide_eq_true_eq] at h1
  refine ⟨h1.1, h1.2.1, ?_⟩
  have h2 := h1.2.2
  by_cases hn : nest = 0
  · rw [if_pos hn] at h2
    have h3 : goodWord (wFL o idx ci sl nest) = true := h2
    unfold wFL at h0 h3
    rw [if_pos hn] at h0 h3
    exact Or.inl ⟨hn, zz_tblw h0 h3⟩
  · unfold wFL at h0
    rw [if_neg hn] at h0
    exact Or.inr ⟨hn, List.mem_filter.mpr ⟨h0, rfl⟩⟩
theorem Cx.K {Ω : Om} {i : Nat} {p : Program} {s : State} {m : MethodId} {meth : Method} {cf : Code} (h : Cx Ω i p s m meth cf) {t : Nat} (ht : t ∈ tagL) : va_K (oD Ω) cl [(oT Ω t, tagT t)] s := by
  refine ⟨h.2.2.2.2.1.2.2.1.1, fun k q hk => ?_⟩
  have hz : k < 1 := (List.getElem?_eq_some_iff.mp hk).1
  rw [show k = 0 by omega] at hk
  cases hk
  exact ⟨(h.2.2.2.2.1.2.2.2.1 t ht).1, (h.2.2.2.2.1.2.2.2.1 t ht).2.1⟩
theorem Cx.low {Ω : Om} {i : Nat} {p : Program} {s : State} {m : MethodId} {meth : Method} {cf : Code} (h : Cx Ω i p s m meth cf) {q : Nat} (hq : ¬ oA Ω q) : s.heap[q]? = (oH Ω)[q]? := h.2.2.2.2.2.2.1 q (by unfold oA at hq; omega)
theorem Cx.hts {Ω : Om} {i : Nat} {p : Program} {s : State} {m : MethodId} {meth : Method} {cf : Code} (h : Cx Ω i p s m meth cf) (args : Array Value) : ∀ w ∈ gw, w.before args s = true := fun w hw => h.2.2.2.2.1.1 w hw args
theorem Cx.new {Ω : Om} {i : Nat} {p : Program} {s : State} {m : MethodId} {meth : Method} {cf : Code} (h : Cx Ω i p s m meth cf) : ∀ q, s.heap.size ≤ q → oA Ω q := fun q hq => Nat.le_trans h.2.2.2.2.2.2.2 hq
