/-! THE TEXT'S OWN METHODS, II: with what lies below the memory of the small machine -/
def StrP (Ω : Om) (as : List Value) : Array Value → State → Prop := fun a U => a = as.toArray ∧ AmbT Ω U ∧ (∀ q, q < oB Ω → U.heap[q]? = (oH Ω)[q]?) ∧ oB Ω ≤ U.heap.size
def StrQ (r : Option Value) : Array Value → State → Outcome → State → Prop := fun _ st oc t => oc = .returned r ∧ t.heap = st.heap
def StrM (Ω : Om) (j : Nat) (as : List Value) (r : Option Value) : Prop := Met (oL Ω) (mt j).1 [cdW j] (rmM j) (StrP Ω as) (StrQ r) (mCe j) (mSl j) (oA Ω)
theorem StrP.blind {Ω : Om} {as : List Value} : FrameBlind (StrP Ω as) := fun a U g mk h => ⟨h.1, AmbT.same (u := U) (U := U.calling g mk a) rfl h.2.1, h.2.2⟩
theorem str_hand {Ω : Om} {j : Nat} {as : List Value} {r : Option Value} (hj : j ∈ JL) (hz : (lg_sl as).length ≤ mL j) (hT : match r with | none => mT j = none | some (.int x) => ∃ ty, mT j = some ty ∧ narrow ty (.int x) = .int x | _ => False)
    (h : ∀ (p : Program) (e : Env) (s : State) (m : MethodId) (args : Array Value) (below : List Frame) (meth : Method) (cf : Code) (Q : State → Prop) (ls : Array Slot), Cx Ω j p s m meth cf → lv_has ls (mL j) (lv_args 0 as) → (∀ (pc : Nat) (ins : Instr) (locs : List Loc) (c n : Nat), va_S (oA Ω) s.heap s.heap locs → c ≤ mCe j → n ≤ mSl j → decode (mB j) pc = .ok (ins, 1) → ins = (match r with | none => Instr.return_ | some _ => Instr.ireturn) → W p (oL Ω) e (rmM j) s m args below meth cf s.heap locs c n Q (F0 m pc ls r.toList)) → W p (oL Ω) e (rmM j) s m args below meth cf s.heap [] 0 0 Q (F0 m 0 ls [])) : StrM Ω j as r := by
  obtain ⟨-, -, -, hpl, -, -, hcls⟩ := mOK_facts hj
  refine Met.ofW (cc := mB j) (maxL := mL j) (ret := mT j) hpl rfl ?_
  intro p e s m args below meth cf s₁ B hml hv
  obtain ⟨rfl, hA, hlow, hbs⟩ := hv
  have hown : s.vm.findClass (ownR (mOw j)) = some m.cls := by rw [← hcls]; exact findClass_of_methodNamed B.named
  have hcx : Cx Ω j p s m meth cf := ⟨B.exec, B.bytes, hml, hown, hA, (name_of_methodNamed B.named B.method).1, hlow, hbs⟩
  have hl := lv_entry as (n := mL j) hz
  have hr := B.returns
  have hlocks := B.notSynchronized
  rw [lg_entry_eq]
  refine h p e s m _ below meth cf _ _ hcx hl (fun pc ins locs c n hS hc hn hd hi => ?_)
  refine W.widen hc hn ?_
  cases r with
  | none =>
    subst hi
    exact W.vret B.exec B.bytes (by rw [hr, hT]) (fun t ht hW => ⟨rfl, ht⟩) hS.2.2 hd hlocks
  | some v =>
    cases v with
    | int x =>
      obtain ⟨ty, h1, h2⟩ := hT
      subst hi
      exact W.zret B.exec B.bytes (by rw [hr, h1]) h2 (fun t ht hW => ⟨rfl, ht⟩) hS.2.2 hd hlocks
    | _ => exact hT.elim
section RAW
variable {Ω : Om} {i : Nat} {p : Program} {e : Env} {s : State} {m : MethodId} {args : Array Value} {below : List Frame} {meth : Method} {cf : Code} {Q : State → Prop} {pc c n : Nat} {H : Heap} {locs : List Loc} {ls : Array Slot}
theorem raw_back {mc ms : Nat} {st0 rest : List Value} {r : Option Value} {a : Array Value} (hr : va_Run p (oL Ω) e (rmM i) s m args below meth cf H locs c n mc ms (F0 m pc ls st0) rest (StrQ r a) (oA Ω)) (hS : va_S (oA Ω) s.heap H locs)
    (kk : ∀ (locs1 : List Loc), va_S (oA Ω) s.heap H locs1 → W p (oL Ω) e (rmM i) s m args below meth cf H locs1 (c + mc) (n + ms) Q (F0 m (pc + 3) ls (r.toList ++ rest))) :
    W p (oL Ω) e (rmM i) s m args below meth cf H locs c n Q (F0 m pc ls st0) := by
  intro T hT X
  obtain ⟨v, st₀, t, T', L, h0, X', hL, e1, e2, ⟨hv, hz⟩, st⟩ := hr T hT X
  cases hv
  obtain ⟨t2, a1, b1⟩ := kk (locs ++ L) ⟨hS.1, hS.2.1, fun q hq => by
      rcases List.mem_append.mp hq with h | h
      · exact hS.2.2 q h
      · exact hL q h⟩ T' (by rw [e1, hz, h0]) X'
  exact ⟨t2, st t2 a1, b1⟩
theorem raw_callS (hcx : Cx Ω i p s m meth cf) {x j b : Nat} {as rest : List Value} {r : Option Value} (hd : decode (mB i) pc = .ok (.invokestatic x, 3)) (hj : j ∈ JL) (hML : (mOw i, x, j, b) ∈ ML) (hb : b ≠ 1 ∧ b ≠ 3 ∧ b ≠ 5) (hM : StrM Ω j as r) (hW : (rest.map fun v => v.category).sum ≤ 8) (hfr : mFr j + 1 ≤ mFr i) (hlo : 8 + (mL j + 11) + mLo j ≤ mLo i) (hc1 : c + mCe j ≤ mCe i) (hn1 : n + mSl j ≤ mSl i) (hlen : as.length = mN j) (hst : mSt j = true) (hls : ls.size = mL i) (hS : va_S (oA Ω) s.heap H locs)
    (kk : ∀ (locs1 : List Loc), va_S (oA Ω) s.heap H locs1 → W p (oL Ω) e (rmM i) s m args below meth cf H locs1 (c + mCe j) (n + mSl j) Q (F0 m (pc + 3) ls (r.toList ++ rest))) : W p (oL Ω) e (rmM i) s m args below meth cf H locs c n Q (F0 m pc ls (as.reverse ++ rest)) := by
  obtain ⟨hini, hmh, hpar, hpl, hstt, hins, hcls⟩ := mOK_facts hj
  have hr := va_runS (rest := rest) (As := as) (g := F0 m pc ls (as.reverse ++ rest)) (n := mN j) (nL := mL i) (Ts := gw) (locs := locs) (cells := c) (slots := n) (H := H) (e := e) (below := below) (R := rmM i) (meth := meth) ⟨hcx.1, hcx.2.1, hcx.2.2.1, hcx.2.2.2.1, hcx.hts args⟩ hM ⟨⟨rfl, rfl, hfr, hlo, zi_pay hcx hj, List.mem_singleton.mpr rfl, hcx.hts args _ (JL_in hj), hcx.hts args _ hini, hmh, zz_len hj (by rw [hst]; rfl), (hcx.hts args _ (ML_link hML hb))⟩, hcx.hts args _ (hstt hst)⟩ ⟨StrP.blind, fun U hU hW => ⟨rfl, hcx.2.2.2.2.1.moved hW, fun q hq => by
      rw [hU, hS.2.1 q (Nat.lt_of_lt_of_le hq hcx.2.2.2.2.2.2.2) (by unfold oA; omega)]
      exact hcx.2.2.2.2.2.2.1 q hq, by rw [hU]; exact Nat.le_trans hcx.2.2.2.2.2.2.2 hS.1⟩⟩ rfl hlen hls rfl (by show 2 * 0 + _ ≤ 8; omega) hd ⟨hc1, hn1⟩
  exact raw_back hr hS kk
end RAW
theorem s_checkP (Ω : Om) (k : Nat) (hk : k < 110) (w : Value) (hw : w = .null ∨ ∃ t, w = .ref t) : StrM Ω 263 [.int (nI k), .int 110, w] (some (.int (nI k))) := by
  have hz : (lg_sl [.int (nI k), .int 110, w]).length ≤ mL 263 := by rcases hw with rfl | ⟨t, rfl⟩ <;> exact Nat.le_of_ble_eq_true rfl
  refine str_hand (hJL rfl) hz ⟨.int, rfl, rfl⟩ (fun p e s m args below meth cf Q ls hcx hls hret => ?_)
  have l0 := lv_at hls 0 (i := 0) (v := .int (nI k)) rfl
  have l1 := lv_at hls 1 (i := 1) (v := .int 110) rfl
  refine lv_iload_n (pc := 0) (k := 0) hcx.1 hcx.2.1 (by decide +kernel) rfl l0 ?_
  refine lv_if_lt (pc := 1) (tgt := 9) (off := 8) hcx.1 hcx.2.1 (by decide +kernel) rfl (fun h => absurd h (nI_pos (by omega))) (fun _ => ?_)
  refine lv_iload_n (pc := 4) (k := 0) hcx.1 hcx.2.1 (by decide +kernel) rfl l0 ?_
  refine lv_iload_n (pc := 5) (k := 1) hcx.1 hcx.2.1 (by decide +kernel) rfl l1 ?_
  refine lv_icmp_lt (pc := 6) (tgt := 16) (off := 10) hcx.1 hcx.2.1 (by decide +kernel) rfl (fun _ => ?_) (fun h => absurd (nI_lt (a := k) (b := 110) hk (by decide)) h)
  refine lv_iload_n (pc := 16) (k := 0) hcx.1 hcx.2.1 (by decide +kernel) rfl l0 ?_
  exact hret 17 .ireturn [] 0 0 va_S.rf (Nat.zero_le _) (Nat.zero_le _) (by decide +kernel) rfl
theorem t_Zq {Ω : Om} {i : Nat} {p : Program} {s : State} {m : MethodId} {meth : Method} {cf : Code} (h : Cx Ω i p s m meth cf) : va_Zq "jdk/internal/util/Preconditions" "SIOOBE_FORMATTER" "Ljava/util/function/BiFunction;" (oA Ω) s s.heap := h.2.2.2.2.1.2.2.2.2.2.2.2.2.2.kept (fun a _ h2 => h.low h2)
theorem s_check (Ω : Om) (k : Nat) (hk : k < 110) : StrM Ω 255 [.int (nI k), .int 110] none := by
  refine str_hand (hJL rfl) (Nat.le_of_ble_eq_true rfl) rfl (fun p e s m args below meth cf Q ls hcx hls hret => ?_)
  have l0 := lv_at hls 0 (i := 0) (v := .int (nI k)) rfl
  have l1 := lv_at hls 1 (i := 1) (v := .int 110) rfl
  have hS : va_S (oA Ω) s.heap s.heap [] := va_S.rf
  refine lv_iload_n (pc := 0) (k := 0) hcx.1 hcx.2.1 (by decide +kernel) rfl l0 ?_
  refine lv_iload_n (pc := 1) (k := 1) hcx.1 hcx.2.1 (by decide +kernel) rfl l1 ?_
  have fin : ∀ w : Value, (w = .null ∨ ∃ t, w = .ref t) → W p (oL Ω) e (rmM 255) s m args below meth cf s.heap [] 0 0 Q (F0 m 5 ls ([.int (nI k), .int 110, w].reverse ++ [])) := by
    intro w hw
    refine raw_callS hcx (x := 1059) (j := 263) (b := 2) (by decide +kernel) (hJL rfl) (List.mem_of_elem_eq_true (by decide +kernel)) (by decide) (s_checkP Ω k hk w hw) (by decide) (by decide) (by decide) (by decide) (by decide) rfl rfl hls.1 hS (fun locs1 hS1 => ?_)
    refine lv_pop (pc := 8) hcx.1 hcx.2.1 (by decide +kernel) rfl ?_
    exact hret 9 .return_ locs1 _ _ hS1 (by decide) (by decide) (by decide +kernel) rfl
  rcases t_Zq hcx with hZ | ⟨t, hZ⟩
  · exact va_gets (A := oA Ω) (pc := 2) (index := 1053) (v := .null) hcx.1 hcx.2.1 hZ hS hcx.2.2.2.1 (hcx.hts args (Cond.fieldLink "java/lang/String" 1053 "jdk/internal/util/Preconditions" "SIOOBE_FORMATTER" "Ljava/util/function/BiFunction;") (tW_in (List.mem_of_elem_eq_true (by decide +kernel)))) (fun x h => h) (by decide +kernel) (fin _ (Or.inl rfl))
  · exact va_gets (A := oA Ω) (pc := 2) (index := 1053) (v := .ref t) hcx.1 hcx.2.1 hZ hS hcx.2.2.2.1 (hcx.hts args (Cond.fieldLink "java/lang/String" 1053 "jdk/internal/util/Preconditions" "SIOOBE_FORMATTER" "Ljava/util/function/BiFunction;") (tW_in (List.mem_of_elem_eq_true (by decide +kernel)))) (fun x h => h) (by decide +kernel) (fin _ (Or.inr ⟨t, rfl⟩))
/-- the text's letter at k -/
def sCh (k : Nat) : Int32 := ((strB.getD k 0 &&& 255).toUInt32 % 65536).toInt32
theorem s_charAt (Ω : Om) (k : Nat) (hk : k < 110) : StrM Ω 256 [.ref (oSv Ω), .int (nI k)] (some (.int (sCh k))) := by
  refine str_hand (hJL rfl) (Nat.le_of_ble_eq_true rfl) ⟨.char, rfl, pk_nc _⟩ (fun p e s m args below meth cf Q ls hcx hls hret => ?_)
  have l0 := lv_at hls 0 (i := 0) (v := .ref (oSv Ω)) rfl
  have l1 := lv_at hls 1 (i := 1) (v := .int (nI k)) rfl
  have hS : va_S (oA Ω) s.heap s.heap [] := va_S.rf
  have hT := ((t_S hcx).1 0 (by decide)).2.2.2
  refine lv_iload_n (pc := 0) (k := 1) hcx.1 hcx.2.1 (by decide +kernel) rfl l1 ?_
  refine lv_aload_n (pc := 1) (k := 0) hcx.1 hcx.2.1 (by decide +kernel) rfl l0 ?_
  refine va_tlen (A := oA Ω) (pc := 2) (v := 110) hcx.1 hcx.2.1 hT hS rfl (by decide +kernel) ?_
  refine raw_callS hcx (x := 9) (j := 255) (b := 8) (as := [.int (nI k), .int 110]) (rest := []) (r := none) (by decide +kernel) (hJL rfl) (List.mem_of_elem_eq_true (by decide +kernel)) (by decide) (s_check Ω k hk) (by decide) (by decide) (by decide) (by decide) (by decide) rfl rfl hls.1 hS (fun locs1 hS1 => ?_)
  refine lv_aload_n (pc := 6) (k := 0) hcx.1 hcx.2.1 (by decide +kernel) rfl l0 ?_
  refine lv_iload_n (pc := 7) (k := 1) hcx.1 hcx.2.1 (by decide +kernel) rfl l1 ?_
  refine va_tb (A := oA Ω) (pc := 8) (v := .int (strB.getD k 0)) hcx.1 hcx.2.1 hT hS1 (vp_in_nI hk (by decide)) (by rw [nI_clamp (by omega)]; rfl) (by decide +kernel) ?_
  refine lv_sipush (pc := 9) (n := 255) (v := 255) hcx.1 hcx.2.1 (by decide +kernel) rfl ?_
  refine lv_iand (pc := 12) hcx.1 hcx.2.1 (by decide +kernel) ?_
  refine lv_i2c (pc := 13) (v := sCh k) hcx.1 hcx.2.1 (by decide +kernel) rfl ?_
  exact hret 14 .ireturn locs1 _ _ hS1 (by decide) (by decide) (by decide +kernel) rfl
