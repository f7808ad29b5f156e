/-! FROM MANY INSTRUCTIONS TO A METHOD'S CONTRACT -/
/-- from this state of the small machine, in the method i, in any frame: it returns, and K holds of its answer and memory -/
def GoS (Ω : Om) (md : Bool) (i : Nat) (K : Ka) : Co := fun pc ls st M c n => ∀ (p : Program) (e : Env) (s : State) (m : MethodId) (args : Array Value) (below : List Frame) (meth : Method) (cf : Code) (Q : State → Prop) (ad0 : Nat → Nat → Nat) (M0 : Mem), Cx Ω i p s m meth cf → ReH Ω md i p e s m args below meth cf Q ad0 M0 K → WW Ω md i p e s m args below meth cf Q ad0 M0 pc ls st M c n
theorem go_wp {Ω : Om} {md : Bool} {i : Nat} {K : Ka} (hM : okM i) (cut : List Nat) : ∀ (f pc : Nat) (ls : List (Option Vl)) (st : List Vl) (M : Mem) (c n : Nat), wp md (oN Ω) i (CallS Ω md) (GoS Ω md i K) cut K f pc ls st M c n → GoS Ω md i K pc ls st M c n := by
  intro f
  induction f with
  | zero => intro pc ls st M c n h; exact h
  | succ f ih =>
    intro pc ls st M c n h p e s m args below meth cf Q ad0 M0 hcx hret
    have h : exE md (oN Ω) i (CallS Ω md) K (fun pc ls st M c n => cond (cut.elem pc) (GoS Ω md i K pc ls st M c n) (wp md (oN Ω) i (CallS Ω md) (GoS Ω md i K) cut K f pc ls st M c n)) (zd i pc) ls st M c n := h
    have hok := hM pc
    cases hz : zd i pc with
    | none => rw [hz] at h; exact h.elim
    | some q =>
      obtain ⟨ins, nn, a, b, d, t, vi, vj, sl⟩ := q
      rw [hz] at h hok
      have hok2 : (decide (decode (mB i) pc = .ok (ins, nn - pc)) && okI i pc ins nn a b d t vi vj sl) = true := hok
      simp only [Bool.and_eq_true, decide_eq_true_eq] at hok2
      refine ex1_sound (nx := fun pc ls st M c n => cond (cut.elem pc) (GoS Ω md i K pc ls st M c n) (wp md (oN Ω) i (CallS Ω md) (GoS Ω md i K) cut K f pc ls st M c n)) hcx hret hok2.1 (fun pc ls st M c n h => ?_) hok2.2 h
      cases hcut : cut.elem pc with
      | true => rw [hcut] at h; exact h p e s m args below meth cf Q ad0 M0 hcx hret
      | false => rw [hcut] at h; exact ih pc ls st M c n h p e s m args below meth cf Q ad0 M0 hcx hret
/-- the locals with which a method begins -/
def eL : List Vl → Nat → List (Option Vl)
  | [], n => List.replicate n none
  | v :: vs, n => match v with
    | .inr (.inl _) => some v :: none :: eL vs (n - 2)
    | _ => some v :: eL vs (n - 1)
def aZ : List Vl → Nat
  | [] => 0
  | v :: vs => (if isJ v = true then 2 else 1) + aZ vs
theorem lG_rep : ∀ (n k : Nat), lG (List.replicate n none) k = none := by
  intro n
  induction n with
  | zero => intro k; rfl
  | succ n ih => intro k; cases k with
    | zero => rfl
    | succ k => exact ih k
theorem eL_args (ad : Nat → Nat → Nat) : ∀ (as : List Vl) (n o k : Nat) (v : Vl), lG (eL as n) k = some v → (k + o, val ad v) ∈ lv_args o (as.map (val ad)) := by
  intro as
  induction as with
  | nil => intro n o k v h; rw [eL, lG_rep] at h; cases h
  | cons w as ih =>
    intro n o k v h
    show (k + o, val ad v) ∈ (o, val ad w) :: lv_args (if (val ad w).category = 2 then o + 2 else o + 1) (as.map (val ad))
    rw [zz_cat]
    rcases w with x | x | x
    · cases k with
      | zero => cases h; rw [Nat.zero_add]; exact List.mem_cons_self
      | succ k =>
        have := ih (n - 1) (o + 1) k v h
        rw [show k + 1 + o = k + (o + 1) by omega]
        exact List.mem_cons_of_mem _ this
    · cases k with
      | zero => cases h; rw [Nat.zero_add]; exact List.mem_cons_self
      | succ k => cases k with
        | zero => cases h
        | succ k =>
          have := ih (n - 2) (o + 2) k v h
          rw [show k + 1 + 1 + o = k + (o + 2) by omega]
          exact List.mem_cons_of_mem _ this
    · cases k with
      | zero => cases h; rw [Nat.zero_add]; exact List.mem_cons_self
      | succ k =>
        have := ih (n - 1) (o + 1) k v h
        rw [show k + 1 + o = k + (o + 1) by omega]
        exact List.mem_cons_of_mem _ this
theorem eL_mem : ∀ (as : List Vl) (n k : Nat) (v : Vl), lG (eL as n) k = some v → v ∈ as := by
  intro as
  induction as with
  | nil => intro n k v h; rw [eL, lG_rep] at h; cases h
  | cons w as ih =>
    intro n k v h
    rcases w with x | x | x
    · cases k with
      | zero => cases h; exact List.mem_cons_self
      | succ k => exact List.mem_cons_of_mem _ (ih (n - 1) k v h)
    · cases k with
      | zero => cases h; exact List.mem_cons_self
      | succ k => cases k with
        | zero => cases h
        | succ k => exact List.mem_cons_of_mem _ (ih (n - 2) k v h)
    · cases k with
      | zero => cases h; exact List.mem_cons_self
      | succ k => exact List.mem_cons_of_mem _ (ih (n - 1) k v h)
theorem lg_len (ad : Nat → Nat → Nat) : ∀ (as : List Vl), (lg_sl (as.map (val ad))).length = aZ as := by
  intro as
  induction as with
  | nil => rfl
  | cons w as ih =>
    rcases w with x | x | x
    · show (lg_sl (as.map (val ad))).length + 1 = 1 + aZ as
      rw [ih]; omega
    · show (lg_sl (as.map (val ad))).length + 1 + 1 = 2 + aZ as
      rw [ih]; omega
    · cases x with
      | none =>
        show (lg_sl (as.map (val ad))).length + 1 = 1 + aZ as
        rw [ih]; omega
      | some q =>
        show (lg_sl (as.map (val ad))).length + 1 = 1 + aZ as
        rw [ih]; omega
theorem call_go {Ω : Om} {md : Bool} {j : Nat} {as : List Vl} {M : Mem} {K : Ka} (hj : j ∈ JL) (hz : aZ as ≤ mL j) (h : GoS Ω md j K 0 (eL as (mL j)) [] M 0 0) : CallS Ω md j as M K := by
  intro ad
  obtain ⟨-, -, -, hpl, -, -, hcls⟩ := mOK_facts hj
  refine Met.ofW (cc := mB j) (maxL := mL j) (ret := mT j) hpl rfl ?_
  intro p e s m args below meth cf s₁ B hml hv
  obtain ⟨rfl, hA, hR, hso, hlow, hbs⟩ := hv
  have hown : s.vm.findClass (ownR (mOw j)) = some m.cls := by rw [← hcls]; exact findClass_of_methodNamed B.named
  have hcx : Cx Ω j p s m meth cf := ⟨B.exec, B.bytes, hml, hown, hA, (name_of_methodNamed B.named B.method).1, hlow, hbs⟩
  have hl := lv_entry (as.map (val ad)) (n := mL j) (by rw [lg_len]; exact hz)
  have hr := B.returns
  have hlocks := B.notSynchronized
  rw [lg_entry_eq]
  have hL : LRel ad (eL as (mL j)) ((lg_sl (as.map (val ad)) ++ List.replicate (mL j - (lg_sl (as.map (val ad))).length) Slot.unset).toArray) (mL j) := ⟨hl.1, hl.2.1, fun k v hk => hl.2.2 _ (by have := eL_args ad as (mL j) 0 k v hk; rwa [Nat.add_zero] at this)⟩
  refine h p e s m _ below meth cf (MQ below (QcM Ω md ad M K) _ s (mCe j) (mSl j) (oA Ω)) ad M hcx ?_ s.heap [] ad _ hR hL (fun k v hk => hso.mem v (eL_mem as _ k v hk)) trivial va_S.rf (Nat.zero_le _) (Nat.zero_le _) ⟨fun _ => Nat.le_refl _, fun _ _ => rfl⟩
  intro H locs ad1 lsR pc ins v M1 c n hK hR1 hv hE hS hc hn hd hret
  have hq : ∀ t : State, t.heap = H → s.WarmedH t.vm → QcM Ω md ad M K (as.map (val ad)).toArray s (.returned (v.map (val ad1))) t := fun t ht _ => ⟨⟨v, M1, ad1, rfl, hK, by rw [ht]; exact hR1, hv, hE⟩, hS.F ht⟩
  refine W.widen hc hn ?_
  rcases v with _ | x | x | x
  · obtain ⟨rfl, hT⟩ := hret
    exact W.vret B.exec B.bytes (by rw [hr, hT]) hq hS.2.2 hd hlocks
  · obtain ⟨rfl, hT⟩ := hret
    rcases hT with hT | ⟨hT, hb⟩
    · exact W.iret B.exec B.bytes (by rw [hr, hT]) hq hS.2.2 hd hlocks
    · exact W.zret B.exec B.bytes (by rw [hr, hT]) (zz_bool hb).1 hq hS.2.2 hd hlocks
  · obtain ⟨rfl, hT⟩ := hret
    exact W.lret B.exec B.bytes (by rw [hr, hT]) hq hS.2.2 hd hlocks
  · obtain ⟨rfl, rt, hT, hrt⟩ := hret
    exact W.aret B.exec B.bytes (by rw [hr, hT]) hrt (by cases x with
      | none => exact Or.inl rfl
      | some q => exact Or.inr ⟨_, rfl⟩) hq hS.2.2 hd hlocks
/-- once all is made, the references that never change are known -/
theorem go_switch {Ω : Om} {i : Nat} {K : Ka} {pc : Nat} {ls : List (Option Vl)} {st : List Vl} {M : Mem} {c n : Nat} (hM : ∀ k i s r, inW M (k, i) → srT k i s = some r → mR M k i s = r) (h : GoS Ω true i K pc ls st M c n) : GoS Ω false i K pc ls st M c n := by
  intro p e s m args below meth cf Q ad0 M0 hcx hret H locs ad lsR hR hL hLo hs hS hc hn hE
  refine h p e s m args below meth cf Q ad0 M0 hcx (fun H locs ad lsR pc ins v M c n hK hR => hret H locs ad lsR pc ins v M c n hK ?_) H locs ad lsR ?_ hL hLo hs hS hc hn hE
  · exact ⟨hR.1, hR.2.1, hR.2.2.1, hR.2.2.2.1, fun k i s r _ h => (by cases h), hR.2.2.2.2.2⟩
  · exact ⟨hR.1, hR.2.1, hR.2.2.1, hR.2.2.2.1, hM, hR.2.2.2.2.2⟩
