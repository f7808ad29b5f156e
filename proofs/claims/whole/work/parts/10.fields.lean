/-! EACH INSTRUCTION, III: reads and writes of fields and rows -/
section INH
variable {Ω : Om} {md : Bool} {i : Nat} {p : Program} {e : Env} {s : State} {m : MethodId} {args : Array Value} {below : List Frame} {meth : Method} {cf : Code} {Q : State → Prop} {ad0 : Nat → Nat → Nat} {M0 : Mem} {pc : Nat} {ls : List (Option Vl)} {r : List Vl} {M : Mem} {c n : Nat}
theorem cellOf_obj {ad : Nat → Nat → Nat} {k j ci : Nat} (hk : kd (oN Ω) k = .inl ci) : cellOf Ω ad M k j = .inr (ci, (List.range (clN ci)).map (fun s => fv ad M k j s (tagF (clT ci s)))) := by
  unfold cellOf
  rw [hk]
theorem cellOf_row {ad : Nat → Nat → Nat} {k j t N : Nat} (hk : kd (oN Ω) k = .inr (t, N)) : cellOf Ω ad M k j = .inl (oT Ω t, N, if t = 3 then .inr (.inl (mJ M k j)) else if 10 ≤ t then .inr (.inr (.inr (.inr (fun s => (mR M k j s).map (fun q => ad q.1 q.2))))) else .inl (mI M k j)) := by
  unfold cellOf
  rw [hk]
theorem zi_getf {idx ci sl nest k j : Nat} (hcx : Cx Ω i p s m meth cf) (hd : decode (mB i) pc = .ok (.getfield idx, 3)) (hk : kd (oN Ω) k = .inl ci) (hF : (mOw i, idx, ci, sl, nest) ∈ FL) {H : Heap} {locs : List Loc} {ad : Nat → Nat → Nat} {lsR : Array Slot} (hR : RelW Ω md ad M H) (hq : inW M (k, j))
    (kk : W p (oL Ω) e (rmM i) s m args below meth cf H locs c n Q (F0 m (pc + 3) lsR (fv ad M k j sl (tagF (clT ci sl)) :: r.map (val ad)))) : W p (oL Ω) e (rmM i) s m args below meth cf H locs c n Q (F0 m pc lsR (.ref (ad k j) :: r.map (val ad))) := by
  obtain ⟨hci, hsl, hw⟩ := FL_ok hF
  obtain ⟨q0, -, he⟩ := RelW.pos (Ω := Ω) (ad := ad) hq
  rw [cellOf_obj hk] at he
  rcases hw with ⟨-, hw⟩ | ⟨-, hw⟩
  · exact va_get hcx.1 hcx.2.1 (hcx.hts args) (zz_clin ci hci) hcx.2.2.2.1 hcx.2.2.2.2.1.2.2.1 hR.P q0 he (zz_cl ci hci) sl hsl (hcx.hts args _ hw) (fun x h => h) (zz_fs hsl) hd kk
  · exact va_getN hcx.1 hcx.2.1 (hcx.hts args) (zz_clin ci hci) hcx.2.2.2.1 hcx.2.2.2.2.1.2.2.1 hR.P q0 he (zz_cl ci hci) sl hsl (va_Nw.use rfl (hcx.2.2.2.2.1.2.1 _ hw)) (fun x h => h) (zz_fs hsl) hd kk
theorem zi_getfI {idx ci sl nest k j : Nat} (hcx : Cx Ω i p s m meth cf) (hd : decode (mB i) pc = .ok (.getfield idx, 3)) (hk : kd (oN Ω) k = .inl ci) (hF : (mOw i, idx, ci, sl, nest) ∈ FL) (ht : tagF (clT ci sl) = 0 ∨ tagF (clT ci sl) = 1 ∨ tagF (clT ci sl) = 2) (hn : WW Ω md i p e s m args below meth cf Q ad0 M0 (pc + 3) ls (vI (mI M k j sl) :: r) M c n) : WW Ω md i p e s m args below meth cf Q ad0 M0 pc ls (vR (some (k, j)) :: r) M c n := by
  intro H locs ad lsR hR hL hLo hs hS hc hn2 hE
  have hq : inW M (k, j) := okR_obj (hs.1 (k, j) rfl) hk
  refine zi_getf hcx hd hk hF hR hq ?_
  have hk2 := hn H locs ad lsR hR hL hLo ⟨VOk_I _ _, hs.2⟩ hS hc hn2 hE
  rcases ht with ht | ht | ht <;> (rw [ht]; exact hk2)
theorem zi_getfJ {idx ci sl nest k j : Nat} (hcx : Cx Ω i p s m meth cf) (hd : decode (mB i) pc = .ok (.getfield idx, 3)) (hk : kd (oN Ω) k = .inl ci) (hF : (mOw i, idx, ci, sl, nest) ∈ FL) (ht : tagF (clT ci sl) = 3) (hn : WW Ω md i p e s m args below meth cf Q ad0 M0 (pc + 3) ls (vJ (mJ M k j sl) :: r) M c n) : WW Ω md i p e s m args below meth cf Q ad0 M0 pc ls (vR (some (k, j)) :: r) M c n := by
  intro H locs ad lsR hR hL hLo hs hS hc hn2 hE
  have hq : inW M (k, j) := okR_obj (hs.1 (k, j) rfl) hk
  refine zi_getf hcx hd hk hF hR hq ?_
  have hk2 := hn H locs ad lsR hR hL hLo ⟨VOk_J _ _, hs.2⟩ hS hc hn2 hE
  rw [ht]; exact hk2
theorem zi_getfR {idx ci sl nest k j : Nat} (hcx : Cx Ω i p s m meth cf) (hd : decode (mB i) pc = .ok (.getfield idx, 3)) (hk : kd (oN Ω) k = .inl ci) (hF : (mOw i, idx, ci, sl, nest) ∈ FL) (ht : tagF (clT ci sl) = 4) (hn : WW Ω md i p e s m args below meth cf Q ad0 M0 (pc + 3) ls (vR (rR md M k j sl) :: r) M c n) : WW Ω md i p e s m args below meth cf Q ad0 M0 pc ls (vR (some (k, j)) :: r) M c n := by
  intro H locs ad lsR hR hL hLo hs hS hc hn2 hE
  have hq : inW M (k, j) := okR_obj (hs.1 (k, j) rfl) hk
  refine zi_getf hcx hd hk hF hR hq ?_
  rw [ht]
  have hk2 := hn H locs ad lsR hR hL hLo ⟨fun q h => hR.2.2.2.1 k j sl q hq (by rw [rR_eq hR hq] at h; simpa [vR] using h), hs.2⟩ hS hc hn2 hE
  rw [rR_eq hR hq] at hk2
  exact hk2
theorem zz_obj_inj {k k' j j' : Nat} (h : ¬ (k' = k ∧ j' = j)) : ¬ ((k', j') : Nat × Nat) = (k, j) := fun q => h ⟨(Prod.mk.inj q).1, (Prod.mk.inj q).2⟩
theorem Ext.same {ad0 ad : Nat → Nat → Nat} {M0 M M' : Mem} (h : Ext ad0 M0 ad M) (hc : M'.1 = M.1) : Ext ad0 M0 ad M' := ⟨fun k => by have := h.1 k; unfold mC at this ⊢; rw [hc]; exact this, h.2⟩
theorem okR_same {M M' : Mem} (hc : M'.1 = M.1) {q : Nat × Nat} (h : okR M q) : okR M' q := by unfold okR inW mC at h ⊢; rw [hc]; exact h
theorem VOk_same {M M' : Mem} (hc : M'.1 = M.1) {v : Vl} (h : VOk M v) : VOk M' v := fun q hq => okR_same hc (h q hq)
theorem SOk_same {M M' : Mem} (hc : M'.1 = M.1) {st : List Vl} (h : SOk M st) : SOk M' st := SOk.of fun v hv => VOk_same hc (h.mem v hv)
theorem LOk_same {M M' : Mem} (hc : M'.1 = M.1) {ls : List (Option Vl)} (h : LOk M ls) : LOk M' ls := fun k v hv => VOk_same hc (h k v hv)
/-- a store in a field: M' is M but for the slot sl of (k, j), which holds v -/
theorem zi_putf {idx ci sl nest k j : Nat} {v : Value} {M' : Mem} (hcx : Cx Ω i p s m meth cf) (hd : decode (mB i) pc = .ok (.putfield idx, 3)) (hk : kd (oN Ω) k = .inl ci) (hF : (mOw i, idx, ci, sl, nest) ∈ FL) (hfin : (clF ci sl).2.2.2 = false ∨ ((clF ci sl).1 = ownR (mOw i) ∧ (mt i).1.name = "<init>" ∧ nest = 0))
    {H : Heap} {locs : List Loc} {ad : Nat → Nat → Nat} {lsR : Array Slot} (hR : RelW Ω md ad M H) (hS : va_S (oA Ω) s.heap H locs) (hq : inW M (k, j)) (hc' : M'.1 = M.1)
    (hsl2 : fv ad M' k j sl (tagF (clT ci sl)) = v) (hoth : ∀ q a, ¬ (q = (k, j) ∧ a = sl) → mI M' q.1 q.2 a = mI M q.1 q.2 a ∧ mJ M' q.1 q.2 a = mJ M q.1 q.2 a ∧ mR M' q.1 q.2 a = mR M q.1 q.2 a)
    (hnar : narrow (clT ci sl) v = v) (hfit : fits (clT ci sl) v = true) (hr : ∀ z, mR M' k j sl = some z → okR M z) (hs : ∀ z, sr md k j sl = some z → mR M' k j sl = z)
    (kk : ∀ (H1 : Heap) (locs1 : List Loc), RelW Ω md ad M' H1 → va_S (oA Ω) s.heap H1 locs1 → W p (oL Ω) e (rmM i) s m args below meth cf H1 locs1 c n Q (F0 m (pc + 3) lsR (r.map (val ad)))) : W p (oL Ω) e (rmM i) s m args below meth cf H locs c n Q (F0 m pc lsR (v :: .ref (ad k j) :: r.map (val ad))) := by
  obtain ⟨hci, hsl, hw⟩ := FL_ok hF
  obtain ⟨q0, hp0, he⟩ := RelW.pos (Ω := Ω) (ad := ad) hq
  have he2 := he
  rw [cellOf_obj hk] at he
  have hset : ((List.range (clN ci)).map (fun s => fv ad M k j s (tagF (clT ci s)))).set sl v = (List.range (clN ci)).map (fun s => fv ad M' k j s (tagF (clT ci s))) := by
    rw [← hsl2]
    refine zz_fset (f := fun s => fv ad M k j s (tagF (clT ci s))) (g := fun s => fv ad M' k j s (tagF (clT ci s))) (fun a ha => ?_)
    obtain ⟨h1, h2, h3⟩ := hoth (k, j) a (fun q => ha q.2)
    show fv ad M' k j a _ = fv ad M k j a _
    unfold fv
    rw [h1, h2, h3]
  have hfin2 : ∀ (H1 : Heap) (locs1 : List Loc), va_P (oD Ω) cl ((wl Ω ad M).set q0 (ad k j, .inr (ci, ((List.range (clN ci)).map (fun s => fv ad M k j s (tagF (clT ci s)))).set sl v))) H1 → va_D (oA Ω) ((wl Ω ad M).set q0 (ad k j, .inr (ci, ((List.range (clN ci)).map (fun s => fv ad M k j s (tagF (clT ci s)))).set sl v))) → va_S (oA Ω) s.heap H1 locs1 → W p (oL Ω) e (rmM i) s m args below meth cf H1 locs1 c n Q (F0 m (pc + 3) lsR (r.map (val ad))) := by
    intro H1 locs1 hP1 hD1 hS1
    refine kk H1 locs1 (hR.upd hp0 hc' (fun y hy hne => ?_) ?_ (fun k' j' a z hz hz2 => ?_) (fun k' j' a z hz hz2 => ?_) ?_ ?_) hS1
    · have h4 : ∀ a, mI M' y.1 y.2 a = mI M y.1 y.2 a ∧ mJ M' y.1 y.2 a = mJ M y.1 y.2 a ∧ mR M' y.1 y.2 a = mR M y.1 y.2 a := fun a => hoth y a (fun q => hne q.1)
      have e1 : mI M' y.1 y.2 = mI M y.1 y.2 := funext fun a => (h4 a).1
      have e2 : mJ M' y.1 y.2 = mJ M y.1 y.2 := funext fun a => (h4 a).2.1
      have e3 : mR M' y.1 y.2 = mR M y.1 y.2 := funext fun a => (h4 a).2.2
      unfold cellOf fv
      rw [e1, e2, e3]
    · rw [cellOf_obj hk, ← hset]
      exact hP1
    · by_cases hc3 : k' = k ∧ j' = j ∧ a = sl
      · obtain ⟨rfl, rfl, rfl⟩ := hc3
        exact hr z hz2
      · rw [(hoth (k', j') a (fun q => hc3 ⟨(Prod.mk.inj q.1).1, (Prod.mk.inj q.1).2, q.2⟩)).2.2] at hz2
        exact hR.2.2.2.1 k' j' a z hz hz2
    · by_cases hc3 : k' = k ∧ j' = j ∧ a = sl
      · obtain ⟨rfl, rfl, rfl⟩ := hc3
        exact hs z hz2
      · rw [(hoth (k', j') a (fun q => hc3 ⟨(Prod.mk.inj q.1).1, (Prod.mk.inj q.1).2, q.2⟩)).2.2]
        exact hR.2.2.2.2.1 k' j' a z hz hz2
    · refine funext fun a => (hoth (kSCR, 0) a (fun q => ?_)).1
      have := (Prod.mk.inj q.1).1
      have h5 := hq.1
      have h5 : k < kK := h5
      unfold kSCR at this
      unfold kK at h5
      omega
    · refine funext fun a => (hoth (kSH, 0) a (fun q => ?_)).1
      have := (Prod.mk.inj q.1).1
      have h5 := hq.1
      have h5 : k < kK := h5
      unfold kSH at this
      unfold kK at h5
      omega
  have hlen : sl < ((List.range (clN ci)).map (fun s => fv ad M k j s (tagF (clT ci s)))).length := by simpa using hsl
  rcases hw with ⟨hn0, hw⟩ | ⟨hn0, hw⟩
  · rcases hfin with hfin | ⟨hf1, hf2, -⟩
    · exact va_put hcx.1 hcx.2.1 (hcx.hts args) (zz_clin ci hci) (clT ci) (zz_clty ci hci) (zz_clnm ci hci) hcx.2.2.2.1 hcx.2.2.2.2.1.2.2.1 hR.P hR.D hS q0 he (zz_cl ci hci) sl hsl (hcx.hts args _ hw) (fun x h => h) hfin (zz_clty ci hci sl hsl) hnar hfit hlen hd hfin2
    · cases hfb : (clF ci sl).2.2.2 with
      | false => exact va_put hcx.1 hcx.2.1 (hcx.hts args) (zz_clin ci hci) (clT ci) (zz_clty ci hci) (zz_clnm ci hci) hcx.2.2.2.1 hcx.2.2.2.2.1.2.2.1 hR.P hR.D hS q0 he (zz_cl ci hci) sl hsl (hcx.hts args _ hw) (fun x h => h) hfb (zz_clty ci hci sl hsl) hnar hfit hlen hd hfin2
      | true => exact va_putF hcx.1 hcx.2.1 (hcx.hts args) (zz_clin ci hci) (clT ci) (zz_clty ci hci) (zz_clnm ci hci) hcx.2.2.2.1 hcx.2.2.2.2.1.2.2.1 hR.P hR.D hS q0 he (zz_cl ci hci) sl hsl (hcx.hts args _ hw) (fun x h => h) hfb (hcx.2.2.2.2.2.1.trans hf2) hf1 (zz_clty ci hci sl hsl) hnar hfit hlen hd hfin2
  · rcases hfin with hfin | ⟨-, -, hf3⟩
    · exact va_putN hcx.1 hcx.2.1 (hcx.hts args) (zz_clin ci hci) (clT ci) (zz_clty ci hci) (zz_clnm ci hci) hcx.2.2.2.1 hcx.2.2.2.2.1.2.2.1 hR.P hR.D hS q0 he (zz_cl ci hci) sl hsl (va_Nw.use rfl (hcx.2.2.2.2.1.2.1 _ hw)) (fun x h => h) hfin (zz_clty ci hci sl hsl) hnar hfit hlen hd hfin2
    · exact absurd hf3 hn0
theorem zz_bool {x : Int32} (h : x = 0 ∨ x = 1) : narrow .boolean (.int x) = .int x ∧ fits .boolean (.int x) = true := by
  rcases h with rfl | rfl <;> exact ⟨rfl, rfl⟩
theorem zi_putfI {idx ci sl nest k j : Nat} {x : Int32} (hcx : Cx Ω i p s m meth cf) (hd : decode (mB i) pc = .ok (.putfield idx, 3)) (hk : kd (oN Ω) k = .inl ci) (hF : (mOw i, idx, ci, sl, nest) ∈ FL) (hfin : (clF ci sl).2.2.2 = false ∨ ((clF ci sl).1 = ownR (mOw i) ∧ (mt i).1.name = "<init>" ∧ nest = 0)) (ht : clT ci sl = .int ∨ (clT ci sl = .boolean ∧ (x = 0 ∨ x = 1))) (hn : WW Ω md i p e s m args below meth cf Q ad0 M0 (pc + 3) ls r (sI M k j sl x) c n) : WW Ω md i p e s m args below meth cf Q ad0 M0 pc ls (vI x :: vR (some (k, j)) :: r) M c n := by
  intro H locs ad lsR hR hL hLo hs hS hc hn2 hE
  have hq : inW M (k, j) := okR_obj (hs.2.1 (k, j) rfl) hk
  refine zi_putf (M' := sI M k j sl x) hcx hd hk hF hfin hR hS hq rfl ?_ (fun q a h => ⟨?_, rfl, rfl⟩) ?_ ?_ (fun z hz => hR.2.2.2.1 k j sl z hq hz) (fun z hz => hR.2.2.2.2.1 k j sl z hq hz) (fun H1 locs1 hR1 hS1 => hn H1 locs1 ad lsR hR1 hL (LOk_same (M := M) (M' := sI M k j sl x) rfl hLo) (SOk_same (M := M) (M' := sI M k j sl x) rfl hs.2.2) hS1 hc hn2 (hE.same rfl))
  · rcases ht with ht | ⟨ht, -⟩ <;> (rw [ht]; simp [fv, tagF, mI, sI, val])
  · unfold mI sI
    show (if q.1 = k ∧ q.2 = j ∧ a = sl then x else _) = _
    rw [if_neg]
    intro h2
    exact h ⟨Prod.ext h2.1 h2.2.1, h2.2.2⟩
  · rcases ht with ht | ⟨ht, hb⟩
    · rw [ht]; rfl
    · rw [ht]; exact (zz_bool hb).1
  · rcases ht with ht | ⟨ht, hb⟩
    · rw [ht]; rfl
    · rw [ht]; exact (zz_bool hb).2
theorem zi_putfJ {idx ci sl nest k j : Nat} {x : Int64} (hcx : Cx Ω i p s m meth cf) (hd : decode (mB i) pc = .ok (.putfield idx, 3)) (hk : kd (oN Ω) k = .inl ci) (hF : (mOw i, idx, ci, sl, nest) ∈ FL) (hfin : (clF ci sl).2.2.2 = false ∨ ((clF ci sl).1 = ownR (mOw i) ∧ (mt i).1.name = "<init>" ∧ nest = 0)) (ht : clT ci sl = .long) (hn : WW Ω md i p e s m args below meth cf Q ad0 M0 (pc + 3) ls r (sJ M k j sl x) c n) : WW Ω md i p e s m args below meth cf Q ad0 M0 pc ls (vJ x :: vR (some (k, j)) :: r) M c n := by
  intro H locs ad lsR hR hL hLo hs hS hc hn2 hE
  have hq : inW M (k, j) := okR_obj (hs.2.1 (k, j) rfl) hk
  refine zi_putf (M' := sJ M k j sl x) hcx hd hk hF hfin hR hS hq rfl ?_ (fun q a h => ⟨rfl, ?_, rfl⟩) ?_ ?_ (fun z hz => hR.2.2.2.1 k j sl z hq hz) (fun z hz => hR.2.2.2.2.1 k j sl z hq hz) (fun H1 locs1 hR1 hS1 => hn H1 locs1 ad lsR hR1 hL (LOk_same (M := M) (M' := sJ M k j sl x) rfl hLo) (SOk_same (M := M) (M' := sJ M k j sl x) rfl hs.2.2) hS1 hc hn2 (hE.same rfl))
  · rw [ht]; simp [fv, tagF, mJ, sJ, val]
  · unfold mJ sJ
    show (if q.1 = k ∧ q.2 = j ∧ a = sl then x else _) = _
    rw [if_neg]
    intro h2
    exact h ⟨Prod.ext h2.1 h2.2.1, h2.2.2⟩
  · rw [ht]; rfl
  · rw [ht]; rfl
theorem zz_refty {ty : FieldType} (h : tagF ty = 4) (v : Value) (hv : v = .null ∨ ∃ a, v = .ref a) (hF : ty ≠ .float ∧ ty ≠ .double ∧ ty ≠ .char ∧ ty ≠ .short) : narrow ty v = v ∧ fits ty v = true := by
  cases ty <;> first | (cases h; done) | (exact absurd rfl hF.1) | (exact absurd rfl hF.2.1) | (exact absurd rfl hF.2.2.1) | (exact absurd rfl hF.2.2.2) | (rcases hv with rfl | ⟨a, rfl⟩ <;> exact ⟨rfl, rfl⟩)
theorem zi_putfR {idx ci sl nest k j : Nat} {x : Rf} (hcx : Cx Ω i p s m meth cf) (hd : decode (mB i) pc = .ok (.putfield idx, 3)) (hk : kd (oN Ω) k = .inl ci) (hF : (mOw i, idx, ci, sl, nest) ∈ FL) (hfin : (clF ci sl).2.2.2 = false ∨ ((clF ci sl).1 = ownR (mOw i) ∧ (mt i).1.name = "<init>" ∧ nest = 0)) (ht : tagF (clT ci sl) = 4 ∧ clT ci sl ≠ .float ∧ clT ci sl ≠ .double ∧ clT ci sl ≠ .char ∧ clT ci sl ≠ .short) (hsr : sr md k j sl = none) (hn : WW Ω md i p e s m args below meth cf Q ad0 M0 (pc + 3) ls r (sR M k j sl x) c n) : WW Ω md i p e s m args below meth cf Q ad0 M0 pc ls (vR x :: vR (some (k, j)) :: r) M c n := by
  intro H locs ad lsR hR hL hLo hs hS hc hn2 hE
  have hq : inW M (k, j) := okR_obj (hs.2.1 (k, j) rfl) hk
  have hx : mR (sR M k j sl x) k j sl = x := by simp [mR, sR]
  have hv := zz_refty ht.1 (rv ad x) (by cases x with
    | none => exact Or.inl rfl
    | some q => exact Or.inr ⟨_, rfl⟩) ht.2
  refine zi_putf (M' := sR M k j sl x) hcx hd hk hF hfin hR hS hq rfl ?_ (fun q a h => ⟨rfl, rfl, ?_⟩) hv.1 hv.2 (fun z hz => ?_) (fun z hz => by rw [hsr] at hz; cases hz) (fun H1 locs1 hR1 hS1 => hn H1 locs1 ad lsR hR1 hL (LOk_same (M := M) (M' := sR M k j sl x) rfl hLo) (SOk_same (M := M) (M' := sR M k j sl x) rfl hs.2.2) hS1 hc hn2 (hE.same rfl))
  · rw [ht.1]; unfold fv; rw [hx]; rfl
  · unfold mR sR
    show (if q.1 = k ∧ q.2 = j ∧ a = sl then x else _) = _
    rw [if_neg]
    intro h2
    exact h ⟨Prod.ext h2.1 h2.2.1, h2.2.2⟩
  · rw [hx] at hz
    exact hs.1 z (by rw [hz])
end INH
