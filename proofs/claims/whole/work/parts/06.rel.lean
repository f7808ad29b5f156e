/-! HOW THE SMALL MACHINE'S MEMORY STANDS IN THE HEAP -/
theorem zz_lS (l : List (Option Vl)) : ∀ (k : Nat) (v : Option Vl) (j : Nat), lG (lS l k v) j = if j = k ∧ k < l.length then v else lG l j := by
  induction l with
  | nil => intro k v j; simp [lS, lG]
  | cons a l ih =>
    intro k v j
    cases k with
    | zero => cases j <;> simp [lS, lG]
    | succ k => cases j with
      | zero => simp [lS, lG]
      | succ j => simp only [lS, lG, ih, List.length_cons, Nat.add_right_cancel_iff, Nat.add_lt_add_iff_right]
theorem zz_lSlen (l : List (Option Vl)) : ∀ (k : Nat) (v : Option Vl), (lS l k v).length = l.length := by
  induction l with
  | nil => intro k v; rfl
  | cons a l ih => intro k v; cases k <;> simp [lS, ih]
theorem zz_lG_lt {l : List (Option Vl)} : ∀ {k : Nat} {v : Vl}, lG l k = some v → k < l.length := by
  induction l with
  | nil => intro k v h; cases h
  | cons a l ih =>
    intro k v h
    cases k with
    | zero => simp
    | succ k => have := ih h; simp; omega
def isJ (v : Vl) : Bool := match v with
  | .inr (.inl _) => true
  | _ => false
theorem zz_lK {l : List (Option Vl)} {k j : Nat} {w : Vl} (h : lG (lK l k) j = some w) : lG l j = some w ∧ ¬ (j + 1 = k ∧ isJ w = true) := by
  cases k with
  | zero => exact ⟨h, fun q => by omega⟩
  | succ k =>
    have h' : lG (match lG l k with | some (.inr (.inl _)) => lS l k none | _ => l) j = some w := h
    clear h
    revert h'
    intro h
    split at h
    next x hx =>
      rw [zz_lS] at h
      split at h
      · cases h
      next hn =>
        refine ⟨h, fun q => ?_⟩
        have hj : j = k := by omega
        subst hj
        exact hn ⟨rfl, zz_lG_lt h⟩
    next x hx =>
      refine ⟨h, fun q => ?_⟩
      have hj : j = k := by omega
      subst hj
      rw [h] at hx
      rcases w with y | y | y
      · cases q.2
      · exact hx y rfl
      · cases q.2
theorem zz_l1 {l : List (Option Vl)} {k j : Nat} {v w : Vl} (h : lG (l1 l k v) j = some w) : (j = k ∧ w = v) ∨ (j ≠ k ∧ lG l j = some w ∧ ¬ (j + 1 = k ∧ isJ w = true)) := by
  unfold l1 at h
  rw [zz_lS] at h
  split at h
  next q => exact Or.inl ⟨q.1, (Option.some.inj h).symm⟩
  next q =>
    by_cases hj : j = k
    · subst hj
      exact absurd ⟨rfl, zz_lG_lt h⟩ q
    · exact Or.inr ⟨hj, zz_lK h⟩
theorem zz_l2 {l : List (Option Vl)} {k j : Nat} {v w : Vl} (h : lG (l2 l k v) j = some w) : (j = k ∧ w = v) ∨ (j ≠ k ∧ j ≠ k + 1 ∧ lG l j = some w ∧ ¬ (j + 1 = k ∧ isJ w = true)) := by
  unfold l2 at h
  rw [zz_lS] at h
  split at h
  · cases h
  next q0 =>
    rw [zz_lS] at h
    split at h
    next q => exact Or.inl ⟨q.1, (Option.some.inj h).symm⟩
    next q =>
      by_cases hj : j = k
      · subst hj
        exact absurd ⟨rfl, zz_lG_lt h⟩ q
      · by_cases hj2 : j = k + 1
        · subst hj2
          have h5 := zz_lG_lt h
          rw [zz_lSlen] at q0
          exact absurd ⟨rfl, h5⟩ q0
        · exact Or.inr ⟨hj, hj2, zz_lK h⟩
def rv (ad : Nat → Nat → Nat) (r : Rf) : Value := va_rf (r.map (fun q => ad q.1 q.2))
def val (ad : Nat → Nat → Nat) (v : Vl) : Value := match v with
  | .inl x => .int x
  | .inr (.inl x) => .long x
  | .inr (.inr r) => rv ad r
theorem zz_cat (ad : Nat → Nat → Nat) (v : Vl) : (val ad v).category = if isJ v = true then 2 else 1 := by
  obtain x | x | x := v
  · rfl
  · rfl
  · cases x <;> rfl
def LRel (ad : Nat → Nat → Nat) (ls : List (Option Vl)) (lsR : Array Slot) (n : Nat) : Prop := lsR.size = n ∧ lv_wf lsR ∧ ∀ (k : Nat) (v : Vl), lG ls k = some v → lsR[k]? = some (.val (val ad v))
def asL (ad : Nat → Nat → Nat) (ls : List (Option Vl)) (n : Nat) : List (Nat × Value) := (List.range n).filterMap (fun k => (lG ls k).map (fun v => (k, val ad v)))
theorem zz_asL {ad : Nat → Nat → Nat} {ls : List (Option Vl)} {n : Nat} {q : Nat × Value} : q ∈ asL ad ls n ↔ q.1 < n ∧ ∃ v, lG ls q.1 = some v ∧ q.2 = val ad v := by
  unfold asL
  rw [List.mem_filterMap]
  constructor
  · rintro ⟨k, hk, h⟩
    rw [List.mem_range] at hk
    cases hg : lG ls k with
    | none => rw [hg] at h; cases h
    | some v =>
      rw [hg] at h
      cases h
      exact ⟨hk, v, hg, rfl⟩
  · rintro ⟨h1, v, h2, h3⟩
    refine ⟨q.1, List.mem_range.mpr h1, ?_⟩
    rw [h2]
    show some (q.1, val ad v) = some q
    rw [← h3]
theorem LRel.has {ad : Nat → Nat → Nat} {ls : List (Option Vl)} {lsR : Array Slot} {n : Nat} (h : LRel ad ls lsR n) : lv_has lsR n (asL ad ls n) :=
  ⟨h.1, h.2.1, fun q hq => by
    obtain ⟨-, v, h2, h3⟩ := zz_asL.mp hq
    rw [h3]
    exact h.2.2 _ _ h2⟩
theorem LRel.set1 {ad : Nat → Nat → Nat} {ls : List (Option Vl)} {lsR lsR' : Array Slot} {n k : Nat} {v : Vl} (h : LRel ad ls lsR n)
    (h' : lv_has lsR' n ((k, val ad v) :: (asL ad ls n).filter (fun q => !(q.1 == k) && !(q.1 + 1 == k && q.2.category == 2)))) : LRel ad (l1 ls k v) lsR' n := by
  refine ⟨h'.1, h'.2.1, fun j w hj => ?_⟩
  rcases zz_l1 hj with ⟨rfl, rfl⟩ | ⟨h1, h2, h3⟩
  · exact h'.2.2 (j, val ad w) List.mem_cons_self
  · refine h'.2.2 (j, val ad w) (List.mem_cons_of_mem _ (List.mem_filter.mpr ⟨zz_asL.mpr ⟨?_, w, h2, rfl⟩, ?_⟩))
    · have := h.2.2 j w h2
      have h4 := (Array.getElem?_eq_some_iff.mp this).1
      rw [h.1] at h4
      exact h4
    · simp only [zz_cat]
      by_cases hJ : isJ w = true
      · simp [hJ, h1]
        intro hh
        exact h3 ⟨hh, hJ⟩
      · simp [hJ, h1]
theorem LRel.set2 {ad : Nat → Nat → Nat} {ls : List (Option Vl)} {lsR lsR' : Array Slot} {n k : Nat} {v : Vl} (h : LRel ad ls lsR n)
    (h' : lv_has lsR' n ((k, val ad v) :: (asL ad ls n).filter (fun q => !(q.1 == k) && (!(q.1 == k + 1) && !(q.1 + 1 == k && q.2.category == 2))))) : LRel ad (l2 ls k v) lsR' n := by
  refine ⟨h'.1, h'.2.1, fun j w hj => ?_⟩
  rcases zz_l2 hj with ⟨rfl, rfl⟩ | ⟨h1, h5, h2, h3⟩
  · exact h'.2.2 (j, val ad w) List.mem_cons_self
  · refine h'.2.2 (j, val ad w) (List.mem_cons_of_mem _ (List.mem_filter.mpr ⟨zz_asL.mpr ⟨?_, w, h2, rfl⟩, ?_⟩))
    · have := h.2.2 j w h2
      have h4 := (Array.getElem?_eq_some_iff.mp this).1
      rw [h.1] at h4
      exact h4
    · simp only [zz_cat]
      by_cases hJ : isJ w = true
      · simp [hJ, h1, h5]
        intro hh
        exact h3 ⟨hh, hJ⟩
      · simp [hJ, h1, h5]
/-- what stays the same: the launch, the floor, the heap below it, classes and slots, rows' classes, the script's length, its cell, its ints, the shares' cell, the string's two cells -/
abbrev Om : Type := Launch × Nat × Heap × va_G × (Nat → ClassId) × Nat × Nat × (Nat → Int32) × Nat × Nat × Nat
def oL (Ω : Om) : Launch := Ω.1
def oB (Ω : Om) : Nat := Ω.2.1
def oH (Ω : Om) : Heap := Ω.2.2.1
def oD (Ω : Om) : va_G := Ω.2.2.2.1
def oT (Ω : Om) : Nat → ClassId := Ω.2.2.2.2.1
def oN (Ω : Om) : Nat := Ω.2.2.2.2.2.1
def oS (Ω : Om) : Nat := Ω.2.2.2.2.2.2.1
def oX (Ω : Om) : Nat → Int32 := Ω.2.2.2.2.2.2.2.1
def oSh (Ω : Om) : Nat := Ω.2.2.2.2.2.2.2.2.1
def oSt (Ω : Om) : Nat := Ω.2.2.2.2.2.2.2.2.2.1
def oSv (Ω : Om) : Nat := Ω.2.2.2.2.2.2.2.2.2.2
def shT (j : Nat) : Int32 := [14549535, 4849845, 2909907, 2078505, 1616615, 1322685, 1119195, 969969, 855855, 765765].getD j 0
def inW (M : Mem) (q : Nat × Nat) : Prop := q.1 < kK ∧ q.2 < mC M q.1
def nmL (M : Mem) : List (Nat × Nat) := (List.range kK).flatMap (fun k => (List.range (mC M k)).map (fun i => (k, i)))
theorem mem_nmL {M : Mem} {q : Nat × Nat} : q ∈ nmL M ↔ inW M q := by
  unfold nmL inW
  rw [List.mem_flatMap]
  constructor
  · rintro ⟨k, h1, h2⟩
    obtain ⟨i, h3, rfl⟩ := List.mem_map.mp h2
    exact ⟨List.mem_range.mp h1, List.mem_range.mp h3⟩
  · rintro ⟨h1, h2⟩
    exact ⟨q.1, List.mem_range.mpr h1, List.mem_map.mpr ⟨q.2, List.mem_range.mpr h2, rfl⟩⟩
theorem nodup_nmL (M : Mem) : (nmL M).Nodup := by
  unfold nmL
  unfold List.Nodup
  rw [List.pairwise_flatMap]
  refine ⟨fun k _ => ?_, ?_⟩
  · rw [List.pairwise_map]
    exact List.Pairwise.imp (fun h q => h (Prod.mk.inj q).2) (List.nodup_range (n := mC M k))
  · refine List.Pairwise.imp ?_ (List.nodup_range (n := kK))
    intro a b hab x hx y hy q
    obtain ⟨i, -, rfl⟩ := List.mem_map.mp hx
    obtain ⟨j, -, rfl⟩ := List.mem_map.mp hy
    exact hab (Prod.mk.inj q).1
theorem map_set_nodup {α β : Type} (g g' : α → β) (x : α) : ∀ (l : List α) (p : Nat), l[p]? = some x → l.Nodup → (∀ y ∈ l, y ≠ x → g y = g' y) → (l.map g).set p (g' x) = l.map g' := by
  intro l
  induction l with
  | nil => intro p h; cases h
  | cons a l ih =>
    intro p hp hn h
    obtain ⟨h1, h2⟩ := List.nodup_cons.mp hn
    cases p with
    | zero =>
      have ha : a = x := by simpa using hp
      subst ha
      simp only [List.map_cons, List.set_cons_zero]
      congr 1
      exact List.map_congr_left fun y hy => h y (List.mem_cons_of_mem _ hy) (fun e => h1 (e ▸ hy))
    | succ p =>
      have hp' : l[p]? = some x := by simpa using hp
      simp only [List.map_cons, List.set_cons_succ]
      rw [ih p hp' h2 fun y hy => h y (List.mem_cons_of_mem _ hy), h a List.mem_cons_self (fun e => h1 (e ▸ List.mem_of_getElem? hp'))]
def fv (ad : Nat → Nat → Nat) (M : Mem) (k i s t : Nat) : Value := match t with
  | 3 => .long (mJ M k i s)
  | 4 => rv ad (mR M k i s)
  | _ => .int (mI M k i s)
def cellOf (Ω : Om) (ad : Nat → Nat → Nat) (M : Mem) (k i : Nat) : va_E := match kd (oN Ω) k with
  | .inl ci => .inr (ci, (List.range (clN ci)).map (fun s => fv ad M k i s (tagF (clT ci s))))
  | .inr (t, n) => .inl (oT Ω t, n, if t = 3 then .inr (.inl (mJ M k i)) else if 10 ≤ t then .inr (.inr (.inr (.inr (fun j => (mR M k i j).map (fun q => ad q.1 q.2))))) else .inl (mI M k i))
def wl (Ω : Om) (ad : Nat → Nat → Nat) (M : Mem) : va_W := (nmL M).map (fun q => (ad q.1 q.2, cellOf Ω ad M q.1 q.2))
def okR (M : Mem) (q : Nat × Nat) : Prop := inW M q ∨ (q.2 = 0 ∧ (q.1 = kSCR ∨ q.1 = kSH ∨ q.1 = kSTR))
def VOk (M : Mem) (v : Vl) : Prop := ∀ q, v = vR (some q) → okR M q
def RelW (Ω : Om) (md : Bool) (ad : Nat → Nat → Nat) (M : Mem) (H : Heap) : Prop :=
  (∀ q, inW M q → va_at (oD Ω) cl (ad q.1 q.2, cellOf Ω ad M q.1 q.2) H) ∧ (∀ q q', inW M q → inW M q' → ad q.1 q.2 = ad q'.1 q'.2 → q = q') ∧ (∀ q, inW M q → oB Ω ≤ ad q.1 q.2) ∧
  (∀ k i s q, inW M (k, i) → mR M k i s = some q → okR M q) ∧ (∀ k i s r, inW M (k, i) → sr md k i s = some r → mR M k i s = r) ∧
  (mI M kSCR 0 = oX Ω ∧ mI M kSH 0 = shT ∧ ad kSCR 0 = oS Ω ∧ ad kSH 0 = oSh Ω ∧ ad kSTR 0 = oSt Ω)
theorem RelW.P {Ω : Om} {md : Bool} {ad : Nat → Nat → Nat} {M : Mem} {H : Heap} (h : RelW Ω md ad M H) : va_P (oD Ω) cl (wl Ω ad M) H := by
  intro k q hq
  obtain ⟨x, hx, rfl⟩ := List.mem_map.mp (List.mem_of_getElem? hq)
  exact h.1 x (mem_nmL.mp hx)
theorem RelW.D {Ω : Om} {md : Bool} {ad : Nat → Nat → Nat} {M : Mem} {H : Heap} (h : RelW Ω md ad M H) : va_D (fun q => oB Ω ≤ q) (wl Ω ad M) := by
  constructor
  · intro i j p q hi hj he
    unfold wl at hi hj
    rw [List.getElem?_map] at hi hj
    cases hi' : (nmL M)[i]? with
    | none => rw [hi'] at hi; cases hi
    | some x => cases hj' : (nmL M)[j]? with
      | none => rw [hj'] at hj; cases hj
      | some y =>
        rw [hi'] at hi
        rw [hj'] at hj
        cases hi
        cases hj
        have hxy := h.2.1 x y (mem_nmL.mp (List.mem_of_getElem? hi')) (mem_nmL.mp (List.mem_of_getElem? hj')) he
        subst hxy
        have hl := (List.getElem?_eq_some_iff.mp hi').1
        exact (List.getElem?_inj hl (nodup_nmL M)).mp (hi'.trans hj'.symm)
  · intro k q hq
    obtain ⟨x, hx, rfl⟩ := List.mem_map.mp (List.mem_of_getElem? hq)
    exact h.2.2.1 x (mem_nmL.mp hx)
theorem RelW.pos {Ω : Om} {ad : Nat → Nat → Nat} {M : Mem} {q : Nat × Nat} (h : inW M q) : ∃ p : Nat, (nmL M)[p]? = some q ∧ (wl Ω ad M)[p]? = some (ad q.1 q.2, cellOf Ω ad M q.1 q.2) := by
  obtain ⟨p, hp⟩ := List.getElem?_of_mem (mem_nmL.mpr h)
  refine ⟨p, hp, ?_⟩
  unfold wl
  rw [List.getElem?_map, hp]
  rfl
/-- behind a store -/
theorem RelW.upd {Ω : Om} {md : Bool} {ad : Nat → Nat → Nat} {M M' : Mem} {H H1 : Heap} (h : RelW Ω md ad M H) {q : Nat × Nat} {p : Nat} (hp : (nmL M)[p]? = some q) (hc : M'.1 = M.1)
    (hcell : ∀ y, inW M y → y ≠ q → cellOf Ω ad M y.1 y.2 = cellOf Ω ad M' y.1 y.2) (hP : va_P (oD Ω) cl ((wl Ω ad M).set p (ad q.1 q.2, cellOf Ω ad M' q.1 q.2)) H1)
    (hr : ∀ k i s z, inW M (k, i) → mR M' k i s = some z → okR M z) (hs : ∀ k i s r, inW M (k, i) → sr md k i s = some r → mR M' k i s = r) (h1 : mI M' kSCR 0 = mI M kSCR 0) (h2 : mI M' kSH 0 = mI M kSH 0) : RelW Ω md ad M' H1 := by
  have hin : ∀ y, inW M' y ↔ inW M y := fun y => by unfold inW mC; rw [hc]
  have hok : ∀ y, okR M' y ↔ okR M y := fun y => by unfold okR; rw [hin]
  have hw : (wl Ω ad M).set p (ad q.1 q.2, cellOf Ω ad M' q.1 q.2) = wl Ω ad M' := by
    have hnm : nmL M' = nmL M := by unfold nmL mC; rw [hc]
    unfold wl
    rw [hnm]
    exact map_set_nodup (fun y => (ad y.1 y.2, cellOf Ω ad M y.1 y.2)) (fun y => (ad y.1 y.2, cellOf Ω ad M' y.1 y.2)) q (nmL M) p hp (nodup_nmL M) (fun y hy hne => by
      show (_, _) = (_, _)
      rw [hcell y (mem_nmL.mp hy) hne])
  rw [hw] at hP
  refine ⟨fun y hy => ?_, fun y z hy hz => h.2.1 y z ((hin y).mp hy) ((hin z).mp hz), fun y hy => h.2.2.1 y ((hin y).mp hy), fun k i s z hk hz => (hok z).mpr (hr k i s z ((hin _).mp hk) hz), fun k i s r hk hz => hs k i s r ((hin _).mp hk) hz, ?_⟩
  · obtain ⟨p', -, h2⟩ := RelW.pos (Ω := Ω) (ad := ad) hy
    exact hP p' _ h2
  · rw [h1, h2]
    exact h.2.2.2.2.2
