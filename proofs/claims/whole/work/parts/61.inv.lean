/-! BOTH SIDES' STATE, and how it is tied -/
def hI (o : Option Nat) : Int32 := match o with
  | some t => nI t
  | none => -1
def TxOK (T : Tx) (nl nh nw nb : Nat) : Prop := T 74 0 = nI nl ∧ T 80 0 = nI nh ∧ T 84 0 = nI nw ∧ T 97 0 = nI nb ∧ (nl ≤ 8 ∧ nh ≤ 4 ∧ nw ≤ 4 ∧ nb ≤ 8) ∧ (∀ k, k < nl → LwOK T k) ∧ (∀ h, h < nh → 1 ≤ (T 82 h).toInt ∧ (T 82 h).toInt ≤ 30) ∧ (∀ h, h < 4 → -30 ≤ (T 83 h).toInt ∧ (T 83 h).toInt ≤ 30) ∧
  ∀ w, w < nw → WgOK T w ∧ ∀ i, i < wN T w → ∀ k, k < 8 → (T 93 (10 * w + i) = nI k ∨ T 94 (10 * w + i) = nI k) → k < nl
def ClTx (M : Mem) (t : Nat) (T : Tx) (nl nh nw nb : Nat) : Prop := mI M 7 t 1 = nI nl ∧ mI M 7 t 4 = nI nh ∧ mI M 7 t 6 = nI nw ∧ mI M 0 t 4 = nI nb ∧ (∀ k, k < nl → ClL M t k T) ∧ (∀ h, h < nh → mI M 43 t h = T 82 h) ∧ (∀ h, h < 4 → mI M 44 t h = T 83 h) ∧ ∀ w, w < nw → ClW M t w T
def TxC (M : Mem) (t nl nh nw nb : Nat) (Ls : Nat → List Lt) : Prop := TxOK (pg M t) nl nh nw nb ∧ ClTx M t (pg M t) nl nh nw nb ∧ ∀ b, b < nb → BOK (Ls b) ∧ ClB M t b (Ls b) ∧ MdB M (8 * t + b) (Ls b)
/-- what is kept of a wing in the class -/
def CS (M : Mem) (f n : Nat) (v : Int32) (g d b a : Nat → Int64) : Prop := mI M 2 f 6 = 1 ∧ mI M 2 f 4 = nI n ∧ mI M 2 f 5 = v ∧ ∀ i, i < n → mJ M 23 f i = g i ∧ mJ M 24 f i = d i ∧ mJ M 25 f i = b i ∧ mJ M 26 f i = a i
/-- what is kept of a wing, in both -/
def SlC (M : Mem) (t w : Nat) : Prop := (mI M 2 (4 * t + w + 2) 6 = 0 ∧ mI M 119 0 (4 * t + w) = 0 ∧ ∀ i, i < 10 → mJ M 23 (4 * t + w + 2) i = 0) ∨
  ∃ v g d b a, (wN (pg M t) w ≤ 10 ∧ GB (wN (pg M t) w) g) ∧ (1 ≤ v.toInt ∧ v.toInt ≤ 40) ∧ CS M (4 * t + w + 2) (wN (pg M t) w) v g d b a ∧ MS M (4 * t + w) (wN (pg M t) w) v g d b a
def HdC (M : Mem) (nt : Nat) (o : Option Nat) : Prop := nt ≤ 4 ∧ mI M 11 0 4 = nI nt ∧ mI M 11 0 5 = hI o ∧ ∀ t, o = some t → t < nt
def HdM (M : Mem) (nt : Nat) (o : Option Nat) : Prop := nt ≤ 4 ∧ mI M 12 0 18 = nI nt ∧ mI M 12 0 19 = hI o ∧ ∀ t, o = some t → t < nt
def Tap (M : Mem) : Prop := ∃ n, n ≤ 2000 ∧ mI M 11 0 1 = nI n ∧ mI M 12 0 2 = nI n ∧ ∀ i, i < n → mI M 63 0 i = mI M 67 0 i
def Gst (M : Mem) : Prop := ∀ i, i < 10 → mI M 65 0 i = mI M 112 0 i ∧ -30 ≤ (mI M 112 0 i).toInt ∧ (mI M 112 0 i).toInt ≤ 30
def Crv (M : Mem) : Prop := ∀ i, i < 61 → (mI M 126 0 i = 0 ∨ mI M 126 0 i = 1) ∧ mJ M 53 0 i = if mI M 126 0 i = 0 then -1000000000000 else mJ M 125 0 i
def Bst (M : Mem) : Prop := ∀ i, i < 10 → mI M 22 0 i = mI M 132 0 i
def RnR (M : Mem) (r : Nat) : Prop := mI M 30 0 r = mI M 134 0 r ∧ ((∃ k, k < 60 ∧ mI M 134 0 r = nI k) ∨ (mI M 134 0 r = -1 ∧ mI M 31 0 r = mI M 135 0 r ∧ mI M 32 0 r = mI M 136 0 r ∧ mI M 33 0 r = mI M 137 0 r ∧ mI M 34 0 r = mI M 138 0 r ∧ mI M 35 0 r = mI M 139 0 r ∧
  (∃ w, w < 4 ∧ mI M 135 0 r = nI w) ∧ (1 ≤ (mI M 136 0 r).toInt ∧ (mI M 136 0 r).toInt ≤ 40) ∧ (-30 ≤ (mI M 137 0 r).toInt ∧ (mI M 137 0 r).toInt ≤ 30) ∧ (-1000000 ≤ (mI M 138 0 r).toInt ∧ (mI M 138 0 r).toInt ≤ 1000000) ∧ 0 ≤ (mI M 139 0 r).toInt ∧ (mI M 139 0 r).toInt ≤ 500))
def Rns (M : Mem) : Prop := ∃ n, n ≤ 60 ∧ mI M 5 0 8 = nI n ∧ mI M 12 0 97 = nI n ∧ ∀ r, r < n → RnR M r
def Sta (M : Mem) : Prop := (∀ i, i < 10 → mI M 37 0 i = 0) ∧ (∀ i, i < 4 → mI M 36 0 i = 0) ∧ (∀ j, j < 10 → mI M 142 0 j = shT j) ∧ (∀ s, s < 22 → mJ M 49 0 s = iJ 49 s) ∧ ∀ s, s < 22 → mJ M 73 0 s = iJ 73 s
def Inv (M : Mem) : Prop := ∃ nt o, HdC M nt o ∧ HdM M nt o ∧ mI M 11 0 2 = mI M 12 0 17 ∧ Tap M ∧ Gst M ∧ (∀ t, t < nt → (∃ nl nh nw nb Ls, TxC M t nl nh nw nb Ls) ∧ ∀ w, w < 4 → SlC M t w) ∧ Crv M ∧ Bst M ∧ Rns M ∧ Sta M
/-- which cells these are -/
def cTx (k i s : Nat) : Bool := (Nat.beq k 0 && Nat.beq s 4) || (Nat.beq k 3 || (Nat.beq k 7 || (Nat.beq k 10 || ((Nat.ble 13 k && Nat.ble k 15) || (Nat.beq k 27 || (Nat.beq k 28 || (Nat.beq k 43 || (Nat.beq k 44 || ((Nat.ble 57 k && Nat.ble k 62) || (Nat.ble 74 k && Nat.ble k 108 && Nat.beq i 0))))))))))
def Av (c w : Nat → Nat → Nat → Bool) : Prop := ∀ k i s, c k i s = true → w k i s = false
theorem ClTx.un {w : Nat → Nat → Nat → Bool} {M M' : Mem} {t : Nat} {T : Tx} {nl nh nw nb : Nat} (h : ClTx M t T nl nh nw nb) (hU : Un w M M') (hw : Av cTx w) : ClTx M' t T nl nh nw nb := by
  obtain ⟨a1, a2, a3, a4, a5, a6, a7, a8⟩ := h
  refine ⟨(hU.I (hw _ _ _ rfl)).trans a1, (hU.I (hw _ _ _ rfl)).trans a2, (hU.I (hw _ _ _ rfl)).trans a3, (hU.I (hw _ _ _ rfl)).trans a4, fun k hk => ?_, fun k hk => (hU.I (hw _ _ _ rfl)).trans (a6 k hk), fun k hk => (hU.I (hw _ _ _ rfl)).trans (a7 k hk), fun k hk => ?_⟩
  · exact (a5 k hk).un hU (fun _ _ => hw _ _ _ rfl) (fun _ _ => hw _ _ _ rfl) (fun _ _ => hw _ _ _ rfl)
  · exact (a8 k hk).un hU (fun _ _ => hw _ _ _ rfl) (fun k i s h1 h2 => hw _ _ _ (by simp [cTx, nb_d, nl_d]; omega))
theorem pg_av {w : Nat → Nat → Nat → Bool} {M M' : Mem} (hU : Un w M M') (hw : Av cTx w) (p : Nat) : pg M' p = pg M p := pg_un hU (fun f s h1 h2 => hw _ _ _ (by simp [cTx, nb_d, nl_d]; omega)) p
theorem TxC.un {w : Nat → Nat → Nat → Bool} {M M' : Mem} {t nl nh nw nb : Nat} {Ls : Nat → List Lt} (h : TxC M t nl nh nw nb Ls) (hU : Un w M M') (hw : Av cTx w) : TxC M' t nl nh nw nb Ls := by
  obtain ⟨a, b, c⟩ := h
  have e := pg_av hU hw t
  refine ⟨by rw [e]; exact a, by rw [e]; exact b.un hU hw, fun k hk => ⟨(c k hk).1, (c k hk).2.1.un hU (fun k i s h1 h2 => hw _ _ _ (by simp [cTx, nb_d, nl_d]; omega)), (c k hk).2.2.un hU (fun k s h1 h2 => hw _ _ _ (by simp [cTx, nb_d, nl_d]; omega))⟩⟩
def cSl (f k i s : Nat) : Bool := ((Nat.beq k 2 || (Nat.ble 23 k && Nat.ble k 26)) && Nat.beq i f) || (((Nat.beq k 119 || Nat.beq k 120) && Nat.beq (s + 2) f) || ((Nat.ble 121 k && Nat.ble k 124) && Nat.beq (s / 10 + 2) f))
theorem SlC.un {w0 : Nat → Nat → Nat → Bool} {M M' : Mem} {t w : Nat} (h : SlC M t w) (hU : Un w0 M M') (hw : Av (cSl (4 * t + w + 2)) w0) (hp : pg M' t = pg M t) : SlC M' t w := by
  have q1 : ∀ k s, (k = 2 ∨ (23 ≤ k ∧ k ≤ 26)) → w0 k (4 * t + w + 2) s = false := fun k s h => hw _ _ _ (by simp [cSl, nb_d, nl_d]; omega)
  have q2 : ∀ k, (k = 119 ∨ k = 120) → w0 k 0 (4 * t + w) = false := fun k h => hw _ _ _ (by simp [cSl, nb_d, nl_d]; omega)
  have q3 : ∀ k i, (121 ≤ k ∧ k ≤ 124) → i < 10 → w0 k 0 (10 * (4 * t + w) + i) = false := fun k i h hi => hw _ _ _ (by simp [cSl, nb_d, nl_d]; omega)
  rcases h with ⟨a, b, c⟩ | ⟨v, g, d, b, a, ⟨hn, h1⟩, h2, ⟨c1, c2, c3, c4⟩, m1, m2, m3⟩
  · exact Or.inl ⟨(hU.I (q1 _ _ (by omega))).trans a, (hU.I (q2 _ (by omega))).trans b, fun i hi => (hU.J (q1 _ _ (by omega))).trans (c i hi)⟩
  · refine Or.inr ⟨v, g, d, b, a, ?_⟩
    rw [hp]
    refine ⟨⟨hn, h1⟩, h2, ⟨(hU.I (q1 _ _ (by omega))).trans c1, (hU.I (q1 _ _ (by omega))).trans c2, (hU.I (q1 _ _ (by omega))).trans c3, fun i hi => ?_⟩, (hU.I (q2 _ (by omega))).trans m1, (hU.I (q2 _ (by omega))).trans m2, fun i hi => ?_⟩
    · obtain ⟨z1, z2, z3, z4⟩ := c4 i hi
      exact ⟨(hU.J (q1 _ _ (by omega))).trans z1, (hU.J (q1 _ _ (by omega))).trans z2, (hU.J (q1 _ _ (by omega))).trans z3, (hU.J (q1 _ _ (by omega))).trans z4⟩
    · obtain ⟨z1, z2, z3, z4⟩ := m3 i hi
      exact ⟨(hU.J (q3 _ _ (by omega) (by omega))).trans z1, (hU.J (q3 _ _ (by omega) (by omega))).trans z2, (hU.J (q3 _ _ (by omega) (by omega))).trans z3, (hU.J (q3 _ _ (by omega) (by omega))).trans z4⟩
/-- what is left alone by calls that only try -/
def cAll (k i s : Nat) : Bool := cTx k i s || (((Nat.beq k 2 || (Nat.ble 23 k && Nat.ble k 26)) && Nat.ble 2 i) || ((Nat.ble 119 k && Nat.ble k 126) || (Nat.beq k 63 || (Nat.beq k 67 || (Nat.beq k 65 || (Nat.beq k 112 || (Nat.beq k 53 || (Nat.beq k 22 || (Nat.beq k 132 || ((Nat.beq k 5 && Nat.beq s 8) || ((Nat.ble 30 k && Nat.ble k 37) || ((Nat.ble 134 k && Nat.ble k 139) || ((Nat.beq k 141 || Nat.beq k 142) || (Nat.beq k 49 || (Nat.beq k 73 || ((Nat.beq k 11 && (Nat.beq s 1 || (Nat.beq s 2 || (Nat.beq s 4 || Nat.beq s 5)))) || (Nat.beq k 12 && (Nat.beq s 2 || (Nat.beq s 17 || (Nat.beq s 18 || (Nat.beq s 19 || Nat.beq s 97)))))))))))))))))))))
theorem Av.tx {w : Nat → Nat → Nat → Bool} (h : Av cAll w) : Av cTx w := fun k i s q => h k i s (by unfold cAll; rw [q]; rfl)
theorem HdC.un {w : Nat → Nat → Nat → Bool} {M M' : Mem} {nt : Nat} {o : Option Nat} (h : HdC M nt o) (hU : Un w M M') (h4 : w 11 0 4 = false) (h5 : w 11 0 5 = false) : HdC M' nt o := ⟨h.1, (hU.I h4).trans h.2.1, (hU.I h5).trans h.2.2.1, h.2.2.2⟩
theorem HdM.un {w : Nat → Nat → Nat → Bool} {M M' : Mem} {nt : Nat} {o : Option Nat} (h : HdM M nt o) (hU : Un w M M') (h4 : w 12 0 18 = false) (h5 : w 12 0 19 = false) : HdM M' nt o := ⟨h.1, (hU.I h4).trans h.2.1, (hU.I h5).trans h.2.2.1, h.2.2.2⟩
theorem Tap.un {w : Nat → Nat → Nat → Bool} {M M' : Mem} (h : Tap M) (hU : Un w M M') (h1 : w 11 0 1 = false) (h2 : w 12 0 2 = false) (h3 : ∀ s, w 63 0 s = false) (h4 : ∀ s, w 67 0 s = false) : Tap M' := by
  obtain ⟨n, a, b, c, d⟩ := h
  exact ⟨n, a, (hU.I h1).trans b, (hU.I h2).trans c, fun i hi => ((hU.I (h3 _)).trans (d i hi)).trans (hU.I (h4 _)).symm⟩
theorem Gst.un {w : Nat → Nat → Nat → Bool} {M M' : Mem} (h : Gst M) (hU : Un w M M') (h1 : ∀ s, w 65 0 s = false) (h2 : ∀ s, w 112 0 s = false) : Gst M' := fun i hi => by
  rw [hU.I (h1 _), hU.I (h2 _)]; exact h i hi
theorem Crv.un {w : Nat → Nat → Nat → Bool} {M M' : Mem} (h : Crv M) (hU : Un w M M') (h1 : ∀ s, w 53 0 s = false) (h2 : ∀ s, w 125 0 s = false) (h3 : ∀ s, w 126 0 s = false) : Crv M' := fun i hi => by
  rw [hU.I (h3 _), hU.J (h1 _), hU.J (h2 _)]; exact h i hi
theorem Bst.un {w : Nat → Nat → Nat → Bool} {M M' : Mem} (h : Bst M) (hU : Un w M M') (h1 : ∀ s, w 22 0 s = false) (h2 : ∀ s, w 132 0 s = false) : Bst M' := fun i hi => by
  rw [hU.I (h1 _), hU.I (h2 _)]; exact h i hi
theorem Rns.un {w : Nat → Nat → Nat → Bool} {M M' : Mem} (h : Rns M) (hU : Un w M M') (h1 : w 5 0 8 = false) (h2 : w 12 0 97 = false) (h3 : ∀ k s, (30 ≤ k ∧ k ≤ 35) ∨ (134 ≤ k ∧ k ≤ 139) → w k 0 s = false) : Rns M' := by
  obtain ⟨n, a, b, c, d⟩ := h
  refine ⟨n, a, (hU.I h1).trans b, (hU.I h2).trans c, fun r hr => ?_⟩
  have := d r hr
  unfold RnR at this ⊢
  rw [hU.I (h3 30 r (by omega)), hU.I (h3 31 r (by omega)), hU.I (h3 32 r (by omega)), hU.I (h3 33 r (by omega)), hU.I (h3 34 r (by omega)), hU.I (h3 35 r (by omega)), hU.I (h3 134 r (by omega)), hU.I (h3 135 r (by omega)), hU.I (h3 136 r (by omega)), hU.I (h3 137 r (by omega)), hU.I (h3 138 r (by omega)), hU.I (h3 139 r (by omega))]
  exact this
theorem Sta.un {w : Nat → Nat → Nat → Bool} {M M' : Mem} (h : Sta M) (hU : Un w M M') (h1 : ∀ s, w 37 0 s = false) (h2 : ∀ s, w 36 0 s = false) (h3 : ∀ s, w 142 0 s = false) (h4 : ∀ s, w 49 0 s = false) (h5 : ∀ s, w 73 0 s = false) : Sta M' :=
  ⟨fun i hi => (hU.I (h1 _)).trans (h.1 i hi), fun i hi => (hU.I (h2 _)).trans (h.2.1 i hi), fun i hi => (hU.I (h3 _)).trans (h.2.2.1 i hi), fun i hi => (hU.J (h4 _)).trans (h.2.2.2.1 i hi), fun i hi => (hU.J (h5 _)).trans (h.2.2.2.2 i hi)⟩
theorem wN_le {T : Tx} {nl nh nw nb w : Nat} (h : TxOK T nl nh nw nb) (hw : w < nw) : wN T w ≤ 10 := (h.2.2.2.2.2.2.2.2 w hw).1.n.2.2.1
theorem cSl_all {x k i s : Nat} (h : cSl (x + 2) k i s = true) : cAll k i s = true := by
  have q : ((k = 2 ∨ k = 23 ∨ k = 24 ∨ k = 25 ∨ k = 26) ∧ i = x + 2) ∨ (k = 119 ∨ k = 120 ∨ k = 121 ∨ k = 122 ∨ k = 123 ∨ k = 124) := by
    simp [cSl, nb_d, nl_d] at h
    omega
  rcases q with ⟨rfl | rfl | rfl | rfl | rfl, rfl⟩ | rfl | rfl | rfl | rfl | rfl | rfl <;> rfl
theorem Inv.all {w : Nat → Nat → Nat → Bool} {M M' : Mem} (h : Inv M) (hU : Un w M M') (hw : Av cAll w) : Inv M' := by
  obtain ⟨nt, o, a1, a2, a3, a4, a5, a6, a7, a8, a9, a10⟩ := h
  refine ⟨nt, o, a1.un hU (hw _ _ _ rfl) (hw _ _ _ rfl), a2.un hU (hw _ _ _ rfl) (hw _ _ _ rfl), ?_, a4.un hU (hw _ _ _ rfl) (hw _ _ _ rfl) (fun s => hw _ _ _ rfl) (fun s => hw _ _ _ rfl), a5.un hU (fun s => hw _ _ _ rfl) (fun s => hw _ _ _ rfl), fun t ht => ?_, a7.un hU (fun s => hw _ _ _ rfl) (fun s => hw _ _ _ rfl) (fun s => hw _ _ _ rfl), a8.un hU (fun s => hw _ _ _ rfl) (fun s => hw _ _ _ rfl), a9.un hU (hw _ _ _ rfl) (hw _ _ _ rfl) (fun k s h => ?_), a10.un hU (fun s => hw _ _ _ rfl) (fun s => hw _ _ _ rfl) (fun s => hw _ _ _ rfl) (fun s => hw _ _ _ rfl) (fun s => hw _ _ _ rfl)⟩
  · rw [hU.I (hw 11 0 2 rfl), hU.I (hw 12 0 17 rfl)]; exact a3
  · obtain ⟨⟨nl, nh, nw, nb, Ls, b1⟩, b2⟩ := a6 t ht
    exact ⟨⟨nl, nh, nw, nb, Ls, b1.un hU hw.tx⟩, fun w' hw' => (b2 w' hw').un hU (fun k i s q => hw k i s (cSl_all q)) (pg_av hU hw.tx t)⟩
  · rcases (show k = 30 ∨ k = 31 ∨ k = 32 ∨ k = 33 ∨ k = 34 ∨ k = 35 ∨ k = 134 ∨ k = 135 ∨ k = 136 ∨ k = 137 ∨ k = 138 ∨ k = 139 by omega) with rfl | rfl | rfl | rfl | rfl | rfl | rfl | rfl | rfl | rfl | rfl | rfl <;> exact hw _ _ _ rfl
/-- one turn of the law: both sides asked the same -/
def Turn (Ω : Om) (ty : Option Vl → Prop) (jx jm : Nat) (as : List Vl) (M : Mem) : Prop := ∃ P : Ka, CallS Ω true jx (vR (some (11, 0)) :: as) M P ∧ ∀ r M1, P r M1 → ty r ∧ (∀ s, mI M1 141 0 s = mI M 141 0 s) ∧ CallS Ω true jm (vR (some (12, 0)) :: as) M1 (fun r' M2 => r' = r ∧ Inv M2 ∧ ∀ s, mI M2 141 0 s = mI M1 141 0 s)
def tyI (r : Option Vl) : Prop := ∃ x, r = some (vI x)
def tyJ (r : Option Vl) : Prop := ∃ x, r = some (vJ x)
