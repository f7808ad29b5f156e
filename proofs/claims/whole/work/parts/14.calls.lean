/-! EACH INSTRUCTION, VI: calls. A method's contract in the small machine's words -/
def PcM (Ω : Om) (md : Bool) (ad : Nat → Nat → Nat) (as : List Vl) (M : Mem) : Array Value → State → Prop := fun v U => v = (as.map (val ad)).toArray ∧ AmbT Ω U ∧ RelW Ω md ad M U.heap ∧ SOk M as ∧ (∀ q, q < oB Ω → U.heap[q]? = (oH Ω)[q]?) ∧ oB Ω ≤ U.heap.size
def QcM (Ω : Om) (md : Bool) (ad : Nat → Nat → Nat) (M : Mem) (K : Ka) : Array Value → State → Outcome → State → Prop := fun _ st oc t => (∃ (r : Option Vl) (M' : Mem) (ad' : Nat → Nat → Nat), oc = .returned (r.map (val ad')) ∧ K r M' ∧ RelW Ω md ad' M' t.heap ∧ (∀ v, r = some v → VOk M' v) ∧ Ext ad M ad' M') ∧ va_F (oA Ω) st t
/-- the method j, called with as on M, returns, and K holds of its answer and the new memory -/
def CallS (Ω : Om) (md : Bool) : Ca := fun j as M K => ∀ ad : Nat → Nat → Nat, Met (oL Ω) (mt j).1 [cdW j] (rmM j) (PcM Ω md ad as M) (QcM Ω md ad M K) (mCe j) (mSl j) (oA Ω)
theorem PcM.blind {Ω : Om} {md : Bool} {ad : Nat → Nat → Nat} {as : List Vl} {M : Mem} : FrameBlind (PcM Ω md ad as M) := fun a U g mk h => ⟨h.1, AmbT.same (u := U) (U := U.calling g mk a) rfl h.2.1, h.2.2⟩
section INC
variable {Ω : Om} {md : Bool} {i : Nat} {p : Program} {e : Env} {s : State} {m : MethodId} {args : Array Value} {below : List Frame} {meth : Method} {cf : Code} {Q : State → Prop} {ad0 : Nat → Nat → Nat} {M0 : Mem} {pc : Nat} {ls : List (Option Vl)} {r : List Vl} {M : Mem} {c n : Nat}
theorem cS_cat (ad : Nat → Nat → Nat) (r : List Vl) : ((r.map (val ad)).map fun v => v.category).sum = cS r := by
  induction r with
  | nil => rfl
  | cons a r ih =>
    rw [List.map_cons, List.map_cons, List.sum_cons, ih, zz_cat]
    rcases a with a | a | a <;> rfl
theorem zi_back {a : Array Value} {rest st0 : List Value} {K : Ka} {H : Heap} {locs : List Loc} {mc ms : Nat} {ad : Nat → Nat → Nat} {lsR : Array Slot} (hr : va_Run p (oL Ω) e (rmM i) s m args below meth cf H locs c n mc ms (F0 m pc lsR st0) rest (QcM Ω md ad M K a) (oA Ω)) (hS : va_S (oA Ω) s.heap H locs)
    (kk : ∀ (v : Option Vl) (M' : Mem) (ad' : Nat → Nat → Nat) (H1 : Heap) (locs1 : List Loc), K v M' → RelW Ω md ad' M' H1 → (∀ w, v = some w → VOk M' w) → Ext ad M ad' M' → va_S (oA Ω) s.heap H1 locs1 → W p (oL Ω) e (rmM i) s m args below meth cf H1 locs1 (c + mc) (n + ms) Q (F0 m (pc + 3) lsR ((v.map (val ad')).toList ++ rest))) :
    W p (oL Ω) e (rmM i) s m args below meth cf H locs c n Q (F0 m pc lsR st0) := by
  intro T hT X
  obtain ⟨v, st₀, t, T', L, h0, X', hL, e1, e2, ⟨⟨r, M', ad', hv, hK, hR', hvo, hE⟩, hz, hk⟩, st⟩ := hr T hT X
  cases hv
  rw [h0] at hz hk
  rw [← e1] at hR' hz hk
  obtain ⟨t2, a1, b1⟩ := kk r M' ad' T'.heap (locs ++ L) hK hR' hvo hE ⟨Nat.le_trans hS.1 hz, fun q h1 h2 => by rw [hk q (Nat.lt_of_lt_of_le h1 hS.1) h2]; exact hS.2.1 q h1 h2, fun q hq => by
      rcases List.mem_append.mp hq with h | h
      · exact hS.2.2 q h
      · exact hL q h⟩ T' rfl X'
  exact ⟨t2, st t2 a1, b1⟩
/-- what the tables say of a method that is called -/
theorem mOK_facts {j : Nat} (h : j ∈ JL) : Cond.initialized (mt j).1.cls ∈ gw ∧ ((mt j).1.cls ≠ "java/lang/invoke/MethodHandle" ∧ (mt j).1.cls ≠ "java/lang/invoke/VarHandle") ∧ (parseMethodDescriptor (mt j).1.desc).map (fun d => d.parameters.length) = some (if mSt j then mN j else mN j - 1) ∧ plainName (mt j).1.cls = true ∧ (mSt j = true → Cond.static (mt j).1 ∈ gw) ∧ (mSt j = false → Cond.instanceMethod (mt j).1 ∈ gw ∧ 0 < mN j) ∧ (mt j).1.cls = ownR (mOw j) := by
  have h1 := List.all_eq_true.mp zz_mOK j h
  unfold mOK at h1
  simp only [Bool.and_eq_true, decide_eq_true_eq] at h1
  obtain ⟨h2, h3, h4, h5, h6, h7⟩ := h1
  refine ⟨?_, h4, h5, h6, fun hs => ?_, fun hs => ?_, h3⟩
  · rw [h3]
    exact zz_in zz_NI zz_NIg (List.mem_map.mpr ⟨mOw j, List.mem_of_elem_eq_true h2, rfl⟩)
  · rw [if_pos hs] at h7
    exact zz_in zz_TL zz_TLg (List.mem_map.mpr ⟨j, List.mem_of_elem_eq_true h7, rfl⟩)
  · rw [if_neg (by rw [hs]; decide)] at h7
    simp only [Bool.and_eq_true, decide_eq_true_eq] at h7
    exact ⟨zz_in zz_IL zz_ILg (List.mem_map.mpr ⟨j, List.mem_of_elem_eq_true h7.1, rfl⟩), h7.2⟩
theorem zi_pay (hcx : Cx Ω i p s m meth cf) {j : Nat} (h : j ∈ JL) : ∀ w ∈ [cdW j], ∀ (a' : Array Value) (U : State), s.WarmedH U.vm → w.before a' U = true := by
  intro w hw a' U hW
  rw [List.mem_singleton.mp hw]
  exact word_at hW (good_of_word (gw_good (JL_in h))) (hcx.hts #[] _ (JL_in h))
theorem zi_Pc (hcx : Cx Ω i p s m meth cf) {H : Heap} {locs : List Loc} {ad : Nat → Nat → Nat} {as : List Vl} (hR : RelW Ω md ad M H) (hs : SOk M as) (hS : va_S (oA Ω) s.heap H locs) {av : Array Value} (hav : av = (as.map (val ad)).toArray) : ∀ U : State, U.heap = H → s.WarmedH U.vm → PcM Ω md ad as M av U := by
  intro U hU hW
  refine ⟨hav, hcx.2.2.2.2.1.moved hW, by rw [hU]; exact hR, hs, fun q hq => ?_, ?_⟩
  · rw [hU, hS.2.1 q (Nat.lt_of_lt_of_le hq hcx.2.2.2.2.2.2.2) (by unfold oA; omega)]
    exact hcx.2.2.2.2.2.2.1 q hq
  · rw [hU]
    exact Nat.le_trans hcx.2.2.2.2.2.2.2 hS.1
/-- the frame behind a call -/
theorem zi_after {j : Nat} {K : Ka} {H : Heap} {locs : List Loc} {ad : Nat → Nat → Nat} {lsR : Array Slot} {av : Array Value} {st0 : List Value} (hL : LRel ad ls lsR (mL i)) (hLo : LOk M ls) (hs : SOk M r) (hS : va_S (oA Ω) s.heap H locs) (hE : Ext ad0 M0 ad M)
    (hc1 : c + mCe j ≤ mCe i) (hn1 : n + mSl j ≤ mSl i) (hr : va_Run p (oL Ω) e (rmM i) s m args below meth cf H locs c n (mCe j) (mSl j) (F0 m pc lsR st0) (r.map (val ad)) (QcM Ω md ad M K av) (oA Ω))
    (hn : ∀ v M', K v M' → WW Ω md i p e s m args below meth cf Q ad0 M0 (pc + 3) ls (v.toList ++ r) M' (c + mCe j) (n + mSl j)) : W p (oL Ω) e (rmM i) s m args below meth cf H locs c n Q (F0 m pc lsR st0) := by
  refine zi_back hr hS (fun v M' ad' H1 locs1 hK hR' hvo hE2 hS1 => ?_)
  have h := hn v M' hK H1 locs1 ad' lsR hR' (hL.ext hE2.2 hLo) (hLo.mono hE2.1) (by
    cases v with
    | none => exact hs.mono hE2.1
    | some w => exact ⟨hvo w rfl, hs.mono hE2.1⟩) hS1 hc1 hn1 (hE.trans hE2)
  have h2 : (v.toList ++ r).map (val ad') = (v.map (val ad')).toList ++ r.map (val ad) := by
    rw [List.map_append, map_ext hE2.2 hs]
    cases v <;> rfl
  unfold F1 at h
  rw [h2] at h
  exact h
theorem zz_len {j : Nat} (h : j ∈ JL) {k : Nat} (hk : (if mSt j then mN j else mN j - 1) = k) : ∀ sig, parseMethodDescriptor (mt j).1.desc = some sig → k = sig.parameters.length := by
  intro sig hs
  have h1 := (mOK_facts h).2.2.1
  rw [hs] at h1
  rw [← hk]
  exact (Option.some.inj h1).symm
theorem zz_rev {ad : Nat → Nat → Nat} {v : Vl} {as r : List Vl} : ((v :: as).reverse ++ r).map (val ad) = (as.map (val ad)).reverse ++ val ad v :: r.map (val ad) := by
  simp
theorem zz_revS {M : Mem} {as r : List Vl} (h : SOk M (as.reverse ++ r)) : SOk M as ∧ SOk M r := ⟨SOk.of fun v hv => h.mem v (by simp [hv]), SOk.of fun v hv => h.mem v (by simp [hv])⟩
theorem zi_callV (hcx : Cx Ω i p s m meth cf) {x j b : Nat} {as : List Vl} {K : Ka} (hd : decode (mB i) pc = .ok (.invokevirtual x, 3)) (hj : j ∈ JL) (hML : (mOw i, x, j, b) ∈ ML) (hcall : CallS Ω md j as M K) (hr8 : cS r ≤ 8) (hfr : mFr j + 1 ≤ mFr i) (hlo : 8 + (mL j + 11) + mLo j ≤ mLo i) (hc1 : c + mCe j ≤ mCe i) (hn1 : n + mSl j ≤ mSl i) (hlen : as.length = mN j) (hb : b = 0) (hsl : j ∈ SL) {ci : Nat} (hci : (mt j).1.cls = clR ci) {k0 j0 : Nat} {as0 : List Vl} (has : as = vR (some (k0, j0)) :: as0) (hk0 : kd (oN Ω) k0 = .inl ci) (hst : mSt j = false) (hn : ∀ v M', K v M' → WW Ω md i p e s m args below meth cf Q ad0 M0 (pc + 3) ls (v.toList ++ r) M' (c + mCe j) (n + mSl j)) : WW Ω md i p e s m args below meth cf Q ad0 M0 pc ls (as.reverse ++ r) M c n := by
  intro H locs ad lsR hR hL hLo hs hS hc hn2 hE
  obtain ⟨hini, hmh, hpar, hpl, hstt, hins, hcls⟩ := mOK_facts hj
  obtain ⟨hsa, hsr⟩ := zz_revS hs
  subst has
  have hq0 := okR_obj (hsa.1 (k0, j0) rfl) hk0
  obtain ⟨q0, -, he⟩ := RelW.pos (Ω := Ω) (ad := ad) hq0
  rw [cellOf_obj hk0] at he
  have hrecv := va_recv (s := s) hcx.2.2.2.2.1.2.2.1 hR.P (zz_cl ci (kd_obj hq0.1 hk0)) he
  rw [← show (mt j).1.cls = clR ci from hci] at hrecv
  have hr := va_runV (b := ad k0 j0) (rest := r.map (val ad)) (As := as0.map (val ad)) (g := F0 m pc lsR (((vR (some (k0, j0)) :: as0).reverse ++ r).map (val ad))) (n := mN j - 1) (nL := mL i) (Ts := gw) (locs := locs) (cells := c) (slots := n) (H := H) (e := e) (below := below) (R := rmM i) (meth := meth) ⟨hcx.1, hcx.2.1, hcx.2.2.1, hcx.2.2.2.1, hcx.hts args⟩ (hcall ad) ⟨⟨rfl, rfl, hfr, hlo, zi_pay hcx hj, List.mem_singleton.mpr rfl, hcx.hts args _ (JL_in hj), hcx.hts args _ hini, hmh, zz_len hj (by rw [hst]; rfl), (hcx.hts args _ (ML_link hML (by subst hb; decide)))⟩, hcx.hts args _ (hins hst).1, hcx.hts args _ (SL_in hsl)⟩ ⟨PcM.blind, hrecv, zi_Pc hcx hR hsa hS rfl⟩ rfl (by rw [← hlen]; simp) hL.1 zz_rev (lv_room (by rw [cS_cat]; exact hr8)) hd ⟨hc1, hn1⟩
  exact zi_after hL hLo hsr hS hE hc1 hn1 hr hn
theorem zi_callVN (hcx : Cx Ω i p s m meth cf) {x j b : Nat} {as : List Vl} {K : Ka} (hd : decode (mB i) pc = .ok (.invokevirtual x, 3)) (hj : j ∈ JL) (hML : (mOw i, x, j, b) ∈ ML) (hcall : CallS Ω md j as M K) (hr8 : cS r ≤ 8) (hfr : mFr j + 1 ≤ mFr i) (hlo : 8 + (mL j + 11) + mLo j ≤ mLo i) (hc1 : c + mCe j ≤ mCe i) (hn1 : n + mSl j ≤ mSl i) (hlen : as.length = mN j) (hb : b = 1) (hsl : j ∈ SL) {ci : Nat} (hci : (mt j).1.cls = clR ci) {k0 j0 : Nat} {as0 : List Vl} (has : as = vR (some (k0, j0)) :: as0) (hk0 : kd (oN Ω) k0 = .inl ci) (hst : mSt j = false) (hn : ∀ v M', K v M' → WW Ω md i p e s m args below meth cf Q ad0 M0 (pc + 3) ls (v.toList ++ r) M' (c + mCe j) (n + mSl j)) : WW Ω md i p e s m args below meth cf Q ad0 M0 pc ls (as.reverse ++ r) M c n := by
  intro H locs ad lsR hR hL hLo hs hS hc hn2 hE
  obtain ⟨hini, hmh, hpar, hpl, hstt, hins, hcls⟩ := mOK_facts hj
  obtain ⟨hsa, hsr⟩ := zz_revS hs
  subst has
  have hq0 := okR_obj (hsa.1 (k0, j0) rfl) hk0
  obtain ⟨q0, -, he⟩ := RelW.pos (Ω := Ω) (ad := ad) hq0
  rw [cellOf_obj hk0] at he
  have hrecv := va_recv (s := s) hcx.2.2.2.2.1.2.2.1 hR.P (zz_cl ci (kd_obj hq0.1 hk0)) he
  rw [← show (mt j).1.cls = clR ci from hci] at hrecv
  have hr := va_runVN (b := ad k0 j0) (rest := r.map (val ad)) (As := as0.map (val ad)) (g := F0 m pc lsR (((vR (some (k0, j0)) :: as0).reverse ++ r).map (val ad))) (n := mN j - 1) (nL := mL i) (Ts := gw) (locs := locs) (cells := c) (slots := n) (H := H) (e := e) (below := below) (R := rmM i) (meth := meth) ⟨hcx.1, hcx.2.1, hcx.2.2.1, hcx.2.2.2.1, hcx.hts args⟩ (hcall ad) ⟨⟨⟨rfl, rfl, hfr, hlo, zi_pay hcx hj, List.mem_singleton.mpr rfl⟩, hcx.hts args _ (JL_in hj), hcx.hts args _ hini, hmh, zz_len hj (by rw [hst]; rfl), (va_Nw.use rfl (hcx.2.2.2.2.1.2.1 _ (ML_nest hML (by subst hb; decide))))⟩, hcx.hts args _ (hins hst).1, hcx.hts args _ (SL_in hsl)⟩ ⟨PcM.blind, hrecv, zi_Pc hcx hR hsa hS rfl⟩ rfl (by rw [← hlen]; simp) hL.1 zz_rev (lv_room (by rw [cS_cat]; exact hr8)) hd ⟨hc1, hn1⟩
  exact zi_after hL hLo hsr hS hE hc1 hn1 hr hn
theorem zi_callS (hcx : Cx Ω i p s m meth cf) {x j b : Nat} {as : List Vl} {K : Ka} (hd : decode (mB i) pc = .ok (.invokestatic x, 3)) (hj : j ∈ JL) (hML : (mOw i, x, j, b) ∈ ML) (hcall : CallS Ω md j as M K) (hr8 : cS r ≤ 8) (hfr : mFr j + 1 ≤ mFr i) (hlo : 8 + (mL j + 11) + mLo j ≤ mLo i) (hc1 : c + mCe j ≤ mCe i) (hn1 : n + mSl j ≤ mSl i) (hlen : as.length = mN j) (hb : b = 2) (hst : mSt j = true) (hn : ∀ v M', K v M' → WW Ω md i p e s m args below meth cf Q ad0 M0 (pc + 3) ls (v.toList ++ r) M' (c + mCe j) (n + mSl j)) : WW Ω md i p e s m args below meth cf Q ad0 M0 pc ls (as.reverse ++ r) M c n := by
  intro H locs ad lsR hR hL hLo hs hS hc hn2 hE
  obtain ⟨hini, hmh, hpar, hpl, hstt, hins, hcls⟩ := mOK_facts hj
  obtain ⟨hsa, hsr⟩ := zz_revS hs
  have hr := va_runS (rest := r.map (val ad)) (As := as.map (val ad)) (g := F0 m pc lsR ((as.reverse ++ r).map (val ad))) (n := mN j) (nL := mL i) (Ts := gw) (locs := locs) (cells := c) (slots := n) (H := H) (e := e) (below := below) (R := rmM i) (meth := meth) ⟨hcx.1, hcx.2.1, hcx.2.2.1, hcx.2.2.2.1, hcx.hts args⟩ (hcall ad) ⟨⟨rfl, rfl, hfr, hlo, zi_pay hcx hj, List.mem_singleton.mpr rfl, hcx.hts args _ (JL_in hj), hcx.hts args _ hini, hmh, zz_len hj (by rw [hst]; rfl), (hcx.hts args _ (ML_link hML (by subst hb; decide)))⟩, hcx.hts args _ (hstt hst)⟩ ⟨PcM.blind, zi_Pc hcx hR hsa hS rfl⟩ rfl (by simp [hlen]) hL.1 (by simp) (lv_room (by rw [cS_cat]; exact hr8)) hd ⟨hc1, hn1⟩
  exact zi_after hL hLo hsr hS hE hc1 hn1 hr hn
theorem zi_callSN (hcx : Cx Ω i p s m meth cf) {x j b : Nat} {as : List Vl} {K : Ka} (hd : decode (mB i) pc = .ok (.invokestatic x, 3)) (hj : j ∈ JL) (hML : (mOw i, x, j, b) ∈ ML) (hcall : CallS Ω md j as M K) (hr8 : cS r ≤ 8) (hfr : mFr j + 1 ≤ mFr i) (hlo : 8 + (mL j + 11) + mLo j ≤ mLo i) (hc1 : c + mCe j ≤ mCe i) (hn1 : n + mSl j ≤ mSl i) (hlen : as.length = mN j) (hb : b = 3) (hst : mSt j = true) (hn : ∀ v M', K v M' → WW Ω md i p e s m args below meth cf Q ad0 M0 (pc + 3) ls (v.toList ++ r) M' (c + mCe j) (n + mSl j)) : WW Ω md i p e s m args below meth cf Q ad0 M0 pc ls (as.reverse ++ r) M c n := by
  intro H locs ad lsR hR hL hLo hs hS hc hn2 hE
  obtain ⟨hini, hmh, hpar, hpl, hstt, hins, hcls⟩ := mOK_facts hj
  obtain ⟨hsa, hsr⟩ := zz_revS hs
  have hr := va_runSN (rest := r.map (val ad)) (As := as.map (val ad)) (g := F0 m pc lsR ((as.reverse ++ r).map (val ad))) (n := mN j) (nL := mL i) (Ts := gw) (locs := locs) (cells := c) (slots := n) (H := H) (e := e) (below := below) (R := rmM i) (meth := meth) ⟨hcx.1, hcx.2.1, hcx.2.2.1, hcx.2.2.2.1, hcx.hts args⟩ (hcall ad) ⟨⟨⟨rfl, rfl, hfr, hlo, zi_pay hcx hj, List.mem_singleton.mpr rfl⟩, hcx.hts args _ (JL_in hj), hcx.hts args _ hini, hmh, zz_len hj (by rw [hst]; rfl), (va_Nw.use rfl (hcx.2.2.2.2.1.2.1 _ (ML_nest hML (by subst hb; decide))))⟩, hcx.hts args _ (hstt hst), trivial⟩ ⟨PcM.blind, zi_Pc hcx hR hsa hS rfl⟩ rfl (by simp [hlen]) hL.1 (by simp) (lv_room (by rw [cS_cat]; exact hr8)) hd ⟨hc1, hn1⟩
  exact zi_after hL hLo hsr hS hE hc1 hn1 hr hn
theorem zi_callI (hcx : Cx Ω i p s m meth cf) {x j b : Nat} {as : List Vl} {K : Ka} (hd : decode (mB i) pc = .ok (.invokespecial x, 3)) (hj : j ∈ JL) (hML : (mOw i, x, j, b) ∈ ML) (hcall : CallS Ω md j as M K) (hr8 : cS r ≤ 8) (hfr : mFr j + 1 ≤ mFr i) (hlo : 8 + (mL j + 11) + mLo j ≤ mLo i) (hc1 : c + mCe j ≤ mCe i) (hn1 : n + mSl j ≤ mSl i) (hlen : as.length = mN j) (hb : b = 4) (hnm : (mt j).1.name = "<init>") (hret : mT j = none) {k0 j0 : Nat} {as0 : List Vl} (has : as = vR (some (k0, j0)) :: as0) (hst : mSt j = false) (hn : ∀ v M', K v M' → WW Ω md i p e s m args below meth cf Q ad0 M0 (pc + 3) ls (v.toList ++ r) M' (c + mCe j) (n + mSl j)) : WW Ω md i p e s m args below meth cf Q ad0 M0 pc ls (as.reverse ++ r) M c n := by
  intro H locs ad lsR hR hL hLo hs hS hc hn2 hE
  obtain ⟨hini, hmh, hpar, hpl, hstt, hins, hcls⟩ := mOK_facts hj
  obtain ⟨hsa, hsr⟩ := zz_revS hs
  subst has
  have hcall2 := hcall ad
  have hcd : cdW j = Cond.code (mt j).1 (mB j) (mL j) none := by unfold cdW; rw [hret]
  have hpay := zi_pay hcx hj
  have hJin := JL_in hj
  rw [hcd] at hcall2 hpay hJin
  have hr := va_runI (b := ad k0 j0) (rest := r.map (val ad)) (As := as0.map (val ad)) (g := F0 m pc lsR (((vR (some (k0, j0)) :: as0).reverse ++ r).map (val ad))) (n := mN j - 1) (nL := mL i) (Ts := gw) (locs := locs) (cells := c) (slots := n) (H := H) (e := e) (below := below) (R := rmM i) (meth := meth) ⟨hcx.1, hcx.2.1, hcx.2.2.1, hcx.2.2.2.1, hcx.hts args⟩ hcall2 ⟨⟨rfl, rfl, hfr, hlo, hpay, List.mem_singleton.mpr rfl, hcx.hts args _ (hJin), hcx.hts args _ hini, hmh, zz_len hj (by rw [hst]; rfl), (hcx.hts args _ (ML_link hML (by subst hb; decide)))⟩, hnm, hcx.hts args _ (hins hst).1⟩ ⟨PcM.blind, zi_Pc hcx hR hsa hS rfl⟩ rfl (by rw [← hlen]; simp) hL.1 zz_rev (lv_room (by rw [cS_cat]; exact hr8)) hd ⟨hc1, hn1⟩
  exact zi_after hL hLo hsr hS hE hc1 hn1 hr hn
theorem zi_callIN (hcx : Cx Ω i p s m meth cf) {x j b : Nat} {as : List Vl} {K : Ka} (hd : decode (mB i) pc = .ok (.invokespecial x, 3)) (hj : j ∈ JL) (hML : (mOw i, x, j, b) ∈ ML) (hcall : CallS Ω md j as M K) (hr8 : cS r ≤ 8) (hfr : mFr j + 1 ≤ mFr i) (hlo : 8 + (mL j + 11) + mLo j ≤ mLo i) (hc1 : c + mCe j ≤ mCe i) (hn1 : n + mSl j ≤ mSl i) (hlen : as.length = mN j) (hb : b = 5) (hnm : (mt j).1.name = "<init>") (hret : mT j = none) {k0 j0 : Nat} {as0 : List Vl} (has : as = vR (some (k0, j0)) :: as0) (hst : mSt j = false) (hn : ∀ v M', K v M' → WW Ω md i p e s m args below meth cf Q ad0 M0 (pc + 3) ls (v.toList ++ r) M' (c + mCe j) (n + mSl j)) : WW Ω md i p e s m args below meth cf Q ad0 M0 pc ls (as.reverse ++ r) M c n := by
  intro H locs ad lsR hR hL hLo hs hS hc hn2 hE
  obtain ⟨hini, hmh, hpar, hpl, hstt, hins, hcls⟩ := mOK_facts hj
  obtain ⟨hsa, hsr⟩ := zz_revS hs
  subst has
  have hcall2 := hcall ad
  have hcd : cdW j = Cond.code (mt j).1 (mB j) (mL j) none := by unfold cdW; rw [hret]
  have hpay := zi_pay hcx hj
  have hJin := JL_in hj
  rw [hcd] at hcall2 hpay hJin
  have hr := va_runIN (b := ad k0 j0) (rest := r.map (val ad)) (As := as0.map (val ad)) (g := F0 m pc lsR (((vR (some (k0, j0)) :: as0).reverse ++ r).map (val ad))) (n := mN j - 1) (nL := mL i) (Ts := gw) (locs := locs) (cells := c) (slots := n) (H := H) (e := e) (below := below) (R := rmM i) (meth := meth) ⟨hcx.1, hcx.2.1, hcx.2.2.1, hcx.2.2.2.1, hcx.hts args⟩ hcall2 ⟨⟨⟨rfl, rfl, hfr, hlo, hpay, List.mem_singleton.mpr rfl⟩, hcx.hts args _ (hJin), hcx.hts args _ hini, hmh, zz_len hj (by rw [hst]; rfl), (va_Nw.use rfl (hcx.2.2.2.2.1.2.1 _ (ML_nest hML (by subst hb; decide))))⟩, hnm, hcx.hts args _ (hins hst).1⟩ ⟨PcM.blind, zi_Pc hcx hR hsa hS rfl⟩ rfl (by rw [← hlen]; simp) hL.1 zz_rev (lv_room (by rw [cS_cat]; exact hr8)) hd ⟨hc1, hn1⟩
  exact zi_after hL hLo hsr hS hE hc1 hn1 hr hn
theorem zi_callT (hcx : Cx Ω i p s m meth cf) {x j b : Nat} {as : List Vl} {K : Ka} (hd : decode (mB i) pc = .ok (.invokevirtual x, 3)) (hj : j ∈ JL) (hML : (mOw i, x, j, b) ∈ ML) (hcall : CallS Ω md j as M K) (hr8 : cS r ≤ 8) (hfr : mFr j + 1 ≤ mFr i) (hlo : 8 + (mL j + 11) + mLo j ≤ mLo i) (hc1 : c + mCe j ≤ mCe i) (hn1 : n + mSl j ≤ mSl i) (hlen : as.length = mN j) (hb : b = 8) (hsl : j ∈ SL) (hci : (mt j).1.cls = "java/lang/String") {as0 : List Vl} (has : as = vR (some (kSTR, 0)) :: as0) (hst : mSt j = false) (hn : ∀ v M', K v M' → WW Ω md i p e s m args below meth cf Q ad0 M0 (pc + 3) ls (v.toList ++ r) M' (c + mCe j) (n + mSl j)) : WW Ω md i p e s m args below meth cf Q ad0 M0 pc ls (as.reverse ++ r) M c n := by
  intro H locs ad lsR hR hL hLo hs hS hc hn2 hE
  obtain ⟨hini, hmh, hpar, hpl, hstt, hins, hcls⟩ := mOK_facts hj
  obtain ⟨hsa, hsr⟩ := zz_revS hs
  subst has
  have hstr := hcx.2.2.2.2.1.2.2.2.2.2.2.2.1
  have hrecv := vk_recv (i := 0) (hstr.kept (fun a _ h2 => hcx.low h2)) (by decide) hS
  rw [← hci, ← hR.2.2.2.2.2.2.2.2.2] at hrecv
  have hr := va_runV (b := ad kSTR 0) (rest := r.map (val ad)) (As := as0.map (val ad)) (g := F0 m pc lsR (((vR (some (kSTR, 0)) :: as0).reverse ++ r).map (val ad))) (n := mN j - 1) (nL := mL i) (Ts := gw) (locs := locs) (cells := c) (slots := n) (H := H) (e := e) (below := below) (R := rmM i) (meth := meth) ⟨hcx.1, hcx.2.1, hcx.2.2.1, hcx.2.2.2.1, hcx.hts args⟩ (hcall ad) ⟨⟨rfl, rfl, hfr, hlo, zi_pay hcx hj, List.mem_singleton.mpr rfl, hcx.hts args _ (JL_in hj), hcx.hts args _ hini, hmh, zz_len hj (by rw [hst]; rfl), (hcx.hts args _ (ML_link hML (by subst hb; decide)))⟩, hcx.hts args _ (hins hst).1, hcx.hts args _ (SL_in hsl)⟩ ⟨PcM.blind, hrecv, zi_Pc hcx hR hsa hS rfl⟩ rfl (by rw [← hlen]; simp) hL.1 zz_rev (lv_room (by rw [cS_cat]; exact hr8)) hd ⟨hc1, hn1⟩
  exact zi_after hL hLo hsr hS hE hc1 hn1 hr hn
theorem zi_objInit (hcx : Cx Ω i p s m meth cf) {x k j : Nat} (hd : decode (mB i) pc = .ok (.invokespecial x, 3)) (hM : (mOw i, x) ∈ M6) (hf : 1 ≤ mFr i) (hl : 14 ≤ mLo i) (hr2 : cS r ≤ 2) (hn : WW Ω md i p e s m args below meth cf Q ad0 M0 (pc + 3) ls r M c n) : WW Ω md i p e s m args below meth cf Q ad0 M0 pc ls (vR (some (k, j)) :: r) M c n := by
  intro H locs ad lsR hR hL hLo hs hS hc hn2 hE
  have h1 := zz_in zz_M6 zz_M6g (List.mem_map.mpr ⟨(mOw i, x), hM, rfl⟩)
  exact W.objInit hcx.1 hcx.2.1 hcx.2.2.2.1 (hcx.hts args _ h1) (hcx.hts args _ (zz_in zz_one zz_oneg List.mem_cons_self)) (hcx.hts args _ (zz_in zz_one zz_oneg (List.mem_cons_of_mem _ List.mem_cons_self))) rfl (hL.1.trans hcx.2.2.1.symm) rfl hd hf (by show 2 * 0 + _ + 12 ≤ mLo i; rw [cS_cat]; omega) (hn H locs ad lsR hR hL hLo hs.2 hS hc hn2 hE)
end INC
