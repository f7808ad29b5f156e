/-! THE LAW'S ENTRY, II: what the start gives -/
abbrev nar0 : Cond := Jvm.Cond.and given_1 narrow_1
def shX (j : Nat) : Cond := .eq (.elem (.static "WingHouse$Solver" "SHARES" "[I") (.int (Int32.ofNat j))) (.int (shT j))
def stX (j : Nat) : Cond := .eq (.elem (.field (.string "WingHouse$Tokens" 11) "java/lang/String" "value" "[B") (.int (Int32.ofNat j))) (.int (strB.getD j 0))
def naL : List Cond := [.eq (.static "java/lang/String" "COMPACT_STRINGS" "Z") (.int 1), .isRef (.static "jdk/internal/util/Preconditions" "SIOOBE_FORMATTER" "Ljava/util/function/BiFunction;"),
  .arrayOf (.static "WingHouse$Solver" "SHARES" "[I") .int, .eq (.length (.static "WingHouse$Solver" "SHARES" "[I")) (.int 10), .exactly (.string "WingHouse$Tokens" 11) "java/lang/String", .eq (.field (.string "WingHouse$Tokens" 11) "java/lang/String" "coder" "B") (.int 0),
  .arrayOf (.field (.string "WingHouse$Tokens" 11) "java/lang/String" "value" "[B") .byte, .eq (.length (.field (.string "WingHouse$Tokens" 11) "java/lang/String" "value" "[B")) (.int 110)]
theorem zz_naL : naL.all (fun w => decide (w ∈ flatC nar0)) = true := by decide +kernel
theorem zz_shX : (List.range 10).all (fun j => decide (shX j ∈ flatC nar0)) = true := by decide +kernel
theorem zz_stX : isSub ((List.range 110).map stX) (flatC nar0) = true := by decide +kernel
theorem st_stat {s : State} {b : Nat} (hts : ∀ w ∈ lw_tbl, w.before #[Value.ref b] s = true) (hgv : nar0.before #[Value.ref b] s = true) : ∃ sh st sv : Nat,
    (va_Z "WingHouse$Solver" "SHARES" "[I" (.ref sh) (fun q => s.heap.size ≤ q) s s.heap ∧ va_T .int sh 10 (fun j => .int (shT j)) (fun q => s.heap.size ≤ q) s s.heap) ∧
    (vk_R "WingHouse$Tokens" 11 "law  drag hingewing bar  deep stiffsweepmass if   on   or   and  not  slantlift widthtwistat   speedbend down " st s ∧
     vk_S 1 [110] [strB] (fun _ => st) (fun _ => sv) (fun q => s.heap.size ≤ q) s s.heap ∧ va_Z "java/lang/String" "COMPACT_STRINGS" "Z" (.int 1) (fun q => s.heap.size ≤ q) s s.heap ∧
     va_Zq "jdk/internal/util/Preconditions" "SIOOBE_FORMATTER" "Ljava/util/function/BiFunction;" (fun q => s.heap.size ≤ q) s s.heap) := by
  have hs := flat_of_before nar0 hgv
  have hA : ∀ a : Nat, a < s.heap.size → ¬ (fun q => s.heap.size ≤ q) a := fun a h => Nat.not_le.mpr h
  have na : ∀ w ∈ naL, w.before #[Value.ref b] s = true := fun w hw => hs w (of_decide_eq_true (List.all_eq_true.mp zz_naL w hw))
  obtain ⟨sh, h1, h2⟩ := va_Tof (f := fun j => .int (shT j)) (N := 10) (A := fun q => s.heap.size ≤ q) (by decide) (na (.arrayOf (.static "WingHouse$Solver" "SHARES" "[I") .int) (by simp [naL])) (va_eqt (na (.eq (.length (.static "WingHouse$Solver" "SHARES" "[I")) (.int 10)) (by simp [naL]))) (fun j hj => va_eqt (hs (shX j) (of_decide_eq_true (List.all_eq_true.mp zz_shX j (List.mem_range.mpr hj))))) hA
  have hZ := va_Zref (A := fun q => s.heap.size ≤ q) (hts _ (over_in (w := Cond.laysStatic "WingHouse$Solver" "SHARES" "[I") (by simp))) (hts _ (over_in (w := Cond.initialized "WingHouse$Solver") (by simp))) h1 hA
  obtain ⟨adK, adV, h3, h4⟩ := vk_Sof (N := 1) (tm := fun _ => .string "WingHouse$Tokens" 11) (len := [110]) (byt := [strB]) (A := fun q => s.heap.size ≤ q)
    (fun i hi => by have : i = 0 := by omega
                    subst this; decide)
    (fun i hi => na (.exactly (.string "WingHouse$Tokens" 11) "java/lang/String") (by simp [naL])) (fun i hi => na (.eq (.field (.string "WingHouse$Tokens" 11) "java/lang/String" "coder" "B") (.int 0)) (by simp [naL]))
    (fun i hi => na (.arrayOf (.field (.string "WingHouse$Tokens" 11) "java/lang/String" "value" "[B") .byte) (by simp [naL]))
    (fun i hi => by have : i = 0 := by omega
                    subst this
                    exact na (.eq (.length (.field (.string "WingHouse$Tokens" 11) "java/lang/String" "value" "[B")) (.int 110)) (by simp [naL]))
    (fun i hi j hj => by
      have : i = 0 := by omega
      subst this
      exact hs (stX j) (isSub_mem _ _ zz_stX _ (List.mem_map.mpr ⟨j, List.mem_range.mpr hj, rfl⟩)))
    (fun i j hi hj hne => by omega) hA
  have e1 := h4 0 (by decide)
  refine ⟨sh, adK 0, adV 0, ⟨hZ, h2⟩, vk_R.of (A := #[Value.ref b]) (hts _ (over_in (by simp))) e1, ?_, va_Zof (hts _ (over_in (w := Cond.laysStatic "java/lang/String" "COMPACT_STRINGS" "Z") (by simp))) (hts _ (over_in (w := Cond.initialized "java/lang/String") (by simp))) (va_eqi (na _ (by simp [naL]))) hA, va_Zqof (hts _ (over_in (w := Cond.laysStatic "jdk/internal/util/Preconditions" "SIOOBE_FORMATTER" "Ljava/util/function/BiFunction;") (by simp))) (hts _ (over_in (w := Cond.initialized "jdk/internal/util/Preconditions") (by simp))) (na _ (by simp [naL])) hA⟩
  refine ⟨fun i hi => ?_, fun i j hi hj _ => by omega⟩
  have : i = 0 := by omega
  subst this
  exact h3.1 0 hi
/-- the memory before anything is made -/
def M00 (Ω : Om) : Mem := ((fun _ => 0), (fun k i s => if k = kSCR ∧ i = 0 then oX Ω s else if k = kSH ∧ i = 0 then shT s else 0), (fun _ _ _ => 0), (fun _ _ _ => none))
/-- what the start fixes -/
def OmOK (Ω : Om) : Prop := oN Ω ≤ 3072
theorem law_start {p : Program} {e : Env} {s : State} {m : MethodId} {below : List Frame} {meth : Method} {c : Code} (l : Launch) {b L : Nat} {xs : Nat → Int32} (hL : L ≤ 3072) (C0 : lw_At p s m meth c b L xs)
    (hG : ∀ Ω : Om, OmOK Ω → GoS Ω false m_LAW_law (fun r _ => r = some (vI 1)) 0 (eL [vR (some (kSCR, 0))] 4) [] (M00 Ω) 0 0) : W p l e room_1 s m #[Value.ref b] below meth c s.heap [] 0 0 (lw_Z below #[Value.ref b] s) (entryFrame m ([Value.ref b] : List Value).toArray 4) := by
  obtain ⟨hx, hb, hr, hml, hown, hts, hX, hbl, hlocks, hgv, hnm⟩ := id C0
  obtain ⟨hg, hn⟩ := st_words hts
  obtain ⟨D, hK⟩ := st_cls hg
  obtain ⟨T, hT⟩ := st_tags hts hg
  obtain ⟨sh, st, sv, hsh, hst⟩ := st_stat hts hgv
  have hG := hG (l, s.heap.size, s.heap, D, T, L, b, xs, sh, st, sv) hL
  generalize hΩ : ((l, s.heap.size, s.heap, D, T, L, b, xs, sh, st, sv) : Om) = Ω at hG
  have eL0 : oL Ω = l := by rw [← hΩ]; rfl
  have eB0 : oB Ω = s.heap.size := by rw [← hΩ]; rfl
  have eH0 : oH Ω = s.heap := by rw [← hΩ]; rfl
  have hA : AmbT Ω s := by
    rw [← hΩ]
    exact ⟨hg, hn, hK, hT, ⟨hX, hbl, by show L < _; omega⟩, hsh, hst⟩
  have hcx : Cx Ω m_LAW_law p s m meth c := ⟨hx, hb, hml, hown, hA, hnm, fun q _ => by rw [eH0], by rw [eB0]; exact Nat.le_refl _⟩
  let ad : Nat → Nat → Nat := fun k _ => if k = kSCR then oS Ω else if k = kSH then oSh Ω else oSt Ω
  have hno : ∀ q, ¬ inW (M00 Ω) q := fun q h => Nat.not_lt_zero _ h.2
  have hR : RelW Ω false ad (M00 Ω) s.heap := by
    refine ⟨fun q h => absurd h (hno q), fun q q' h => absurd h (hno q), fun q h => absurd h (hno q), fun k i s q h => absurd h (hno _), fun k i s r h => absurd h (hno _), ?_, ?_, rfl, rfl, rfl⟩
    · funext a; rfl
    · funext a; rfl
  have hl := lv_entry ([.ref b]) (n := 4) (Nat.le_of_ble_eq_true rfl)
  rw [lg_entry_eq]
  have eb : oS Ω = b := by rw [← hΩ]; rfl
  have hLR : LRel ad (eL [vR (some (kSCR, 0))] 4) ((lg_sl ([.ref b]) ++ List.replicate (4 - (lg_sl ([.ref b])).length) Slot.unset).toArray) 4 := by
    refine ⟨hl.1, hl.2.1, fun k v hk => hl.2.2 (k, val ad v) ?_⟩
    have h1 := eL_args ad [vR (some (kSCR, 0))] 4 0 k v hk
    rw [Nat.add_zero] at h1
    have h2 : [vR (some (kSCR, 0))].map (val ad) = [Value.ref b] := by
      show [Value.ref (oS Ω)] = _
      rw [eb]
    rw [h2] at h1
    exact h1
  have hfin := hG p e s m #[Value.ref b] below meth c (lw_Z below #[Value.ref b] s) ad (M00 Ω) hcx ?_ s.heap [] ad _ hR hLR (fun k v hk q hq => by
      have := eL_mem _ _ _ _ hk
      simp only [List.mem_cons, List.not_mem_nil, or_false] at this
      subst this
      cases hq
      exact Or.inr ⟨rfl, Or.inl rfl⟩) trivial va_S.rf (Nat.zero_le _) (Nat.zero_le _) ⟨fun _ => Nat.le_refl _, fun _ _ => rfl⟩
  · rw [eL0] at hfin
    exact hfin
  · intro H locs ad1 lsR pc ins v M1 c1 n1 hK1 hR1 hv hE hS hc hn1 hd hret
    subst hK1
    obtain ⟨rfl, hT2⟩ := hret
    refine va_forget (fun q hq => ?_) (W.widen hc hn1 ?_)
    · have := hS.2.2 q hq
      unfold oA at this
      rw [eB0] at this
      exact this
    · rw [eL0]
      exact lw_ret hx hb hr hlocks hd
