/-! READ: tokens, the class's -/
theorem bl_leI {a b : Nat} (hb : b < 2 ^ 31) (ha : a < 2 ^ 31) : decide (nI a ≤ nI b) = Nat.ble a b := by
  rw [nl_d]; exact decide_eq_decide.mpr (nI_leI ha hb)
theorem inR_c {a b c : Nat} (ha : a < 2 ^ 31) (hb : b < 2 ^ 31) (hc : c < 2 ^ 31) : inR (nI a) (nI b) (nI c) = (Nat.ble a c && Nat.ble c b) := by
  unfold inR; rw [bl_leI hc ha, bl_leI hb hc]
theorem c_isLetter (Ω : Om) (M : Mem) (v : Int32) (K : Ka) (h : K (some (vI (bI (inR 97 122 v)))) M) : CallS Ω true m_Tokens_isLetter [vI v] M K := by
  refine call_go (hJL rfl) (Nat.le_of_ble_eq_true rfl) (go_wp ok_Tokens_isLetter [] 250 _ _ _ _ _ _ ?_)
  refine And.intro (fun a => ?_) (fun a => And.intro (fun b => ?_) (fun b => ?_))
  · rw [inR_l a] at h; exact ⟨Or.inl rfl, h⟩
  · rw [inR_r b] at h; exact ⟨Or.inl rfl, h⟩
  · rw [inR_m a b] at h; exact ⟨Or.inr rfl, h⟩
theorem c_isDigit (Ω : Om) (M : Mem) (v : Int32) (K : Ka) (h : K (some (vI (bI (inR 48 57 v)))) M) : CallS Ω true m_Tokens_isDigit [vI v] M K := by
  refine call_go (hJL rfl) (Nat.le_of_ble_eq_true rfl) (go_wp ok_Tokens_isDigit [] 250 _ _ _ _ _ _ ?_)
  refine And.intro (fun a => ?_) (fun a => And.intro (fun b => ?_) (fun b => ?_))
  · rw [inR_l a] at h; exact ⟨Or.inl rfl, h⟩
  · rw [inR_r b] at h; exact ⟨Or.inl rfl, h⟩
  · rw [inR_m a b] at h; exact ⟨Or.inr rfl, h⟩
def blI (v : Int32) : Bool := decide (v = 9) || (decide (v = 10) || (decide (v = 13) || decide (v = 32)))
theorem blI_c {c : Nat} (h : c < 2 ^ 31) : blI (nI c) = cBl c := by
  unfold blI cBl
  rw [nb_d, nb_d, nb_d, nb_d]
  rw [show decide (nI c = 9) = decide (c = 9) from decide_eq_decide.mpr (nI_eq h (b := 9) (by decide)), show decide (nI c = 10) = decide (c = 10) from decide_eq_decide.mpr (nI_eq h (b := 10) (by decide)), show decide (nI c = 13) = decide (c = 13) from decide_eq_decide.mpr (nI_eq h (b := 13) (by decide)), show decide (nI c = 32) = decide (c = 32) from decide_eq_decide.mpr (nI_eq h (b := 32) (by decide))]
theorem c_isBlank (Ω : Om) (M : Mem) (v : Int32) (K : Ka) (h : K (some (vI (bI (blI v)))) M) : CallS Ω true m_Tokens_isBlank [vI v] M K := by
  refine call_go (hJL rfl) (Nat.le_of_ble_eq_true rfl) (go_wp ok_Tokens_isBlank [] 250 _ _ _ _ _ _ ?_)
  unfold blI at h
  refine And.intro (fun a => ?_) (fun a => And.intro (fun b => ?_) (fun b => And.intro (fun c => ?_) (fun c => And.intro (fun d => ?_) (fun d => ?_))))
  · rw [decide_eq_true a] at h; exact ⟨Or.inr rfl, h⟩
  · rw [decide_eq_true b, Bool.true_or, Bool.or_true] at h; exact ⟨Or.inr rfl, h⟩
  · rw [decide_eq_true c, Bool.true_or, Bool.or_true, Bool.or_true] at h; exact ⟨Or.inr rfl, h⟩
  · rw [decide_eq_false a, decide_eq_false b, decide_eq_false c, decide_eq_false d] at h; exact ⟨Or.inl rfl, h⟩
  · rw [decide_eq_true d, Bool.or_true, Bool.or_true, Bool.or_true] at h; exact ⟨Or.inr rfl, h⟩
/-- the tape, as the tokens read it -/
def TpC (M : Mem) (B : Nat → Nat) (n : Nat) : Prop := (mR M 8 0 5 = some (63, 0) ∧ mI M 8 0 6 = nI n) ∧ n ≤ 2000 ∧ (∀ i, i < n → mI M 63 0 i &&& 255 = nI (B i) ∧ B i < 256) ∧ ∀ s, s < 22 → mJ M 49 0 s = iJ 49 s
def bA (B : Nat → Nat) (n i : Nat) : Int32 := if i < n then nI (B i) else -1
theorem bA_le {B : Nat → Nat} {n i : Nat} (hB : i < n → B i < 256) : inR 97 122 (bA B n i) = (Nat.ble (i + 1) n && cLe (B i)) := by
  unfold bA
  by_cases c : i < n
  · rw [if_pos c, Nat.ble_eq.mpr (show i + 1 ≤ n from c), Bool.true_and]
    have := hB c
    exact inR_c (a := 97) (b := 122) (by decide) (by decide) (by omega)
  · rw [if_neg c, show Nat.ble (i + 1) n = false from Bool.eq_false_iff.mpr (fun q => c (Nat.le_of_ble_eq_true q))]
    rfl
theorem bA_di {B : Nat → Nat} {n i : Nat} (hB : i < n → B i < 256) : inR 48 57 (bA B n i) = (Nat.ble (i + 1) n && cDi (B i)) := by
  unfold bA
  by_cases c : i < n
  · rw [if_pos c, Nat.ble_eq.mpr (show i + 1 ≤ n from c), Bool.true_and]
    have := hB c
    exact inR_c (a := 48) (b := 57) (by decide) (by decide) (by omega)
  · rw [if_neg c, show Nat.ble (i + 1) n = false from Bool.eq_false_iff.mpr (fun q => c (Nat.le_of_ble_eq_true q))]
    rfl
theorem bA_bl {B : Nat → Nat} {n i : Nat} (hB : i < n → B i < 256) : blI (bA B n i) = (Nat.ble (i + 1) n && cBl (B i)) := by
  unfold bA
  by_cases c : i < n
  · rw [if_pos c, Nat.ble_eq.mpr (show i + 1 ≤ n from c), Bool.true_and]
    have := hB c
    exact blI_c (by omega)
  · rw [if_neg c, show Nat.ble (i + 1) n = false from Bool.eq_false_iff.mpr (fun q => c (Nat.le_of_ble_eq_true q))]
    rfl
theorem c_byteAt (Ω : Om) (M : Mem) (B : Nat → Nat) (n i : Nat) (K : Ka) (hT : TpC M B n) (hi : i ≤ 3000) (h : K (some (vI (bA B n i))) M) : CallS Ω true m_Tokens_byteAt [vR (some (8, 0)), vI (nI i)] M K := by
  obtain ⟨⟨t1, t2⟩, t3, t4, -⟩ := hT
  refine call_go (hJL rfl) (Nat.le_of_ble_eq_true rfl) (go_wp ok_Tokens_byteAt [] 250 _ _ _ _ _ _ ?_)
  conv => whnf
  rw [show rR true M 8 0 5 = some (63, 0) from t1]
  refine And.intro (fun a => absurd a (nI_pos (by omega))) (fun _ => And.intro (fun a => ?_) (fun a => ?_))
  · rw [t2, nI_leI (by omega) (by omega)] at a
    unfold bA at h
    rw [if_neg (by omega)] at h
    exact h
  · have hin : i < n := by
      rw [t2, nI_leI (by omega) (by omega)] at a
      omega
    unfold bA at h
    rw [if_pos hin] at h
    conv => whnf
    rw [show rR true M 8 0 5 = some (63, 0) from t1]
    refine And.intro (fun a => absurd a (nI_ge (b := 2000) (by omega) (by decide))) (fun _ => ?_)
    conv => whnf
    rw [show rR true M 8 0 5 = some (63, 0) from t1]
    refine And.intro (vp_in_nI (by omega) (by decide)) ?_
    rw [nI_clamp (by omega)]
    conv => whnf
    rw [← (t4 i hin).1] at h
    exact h
theorem c_withLetter (Ω : Om) (M : Mem) (w : Int64) (c : Nat) (K : Ka) (h : K (some (vJ (ltV w c))) M) : CallS Ω true m_Tokens_withLetter [vJ w, vI (nI c)] M K := by
  refine call_go (hJL rfl) (Nat.le_of_ble_eq_true rfl) (go_wp ok_Tokens_withLetter [] 250 _ _ _ _ _ _ ?_)
  conv => whnf
  exact h
/-- what one token's scan touches -/
def wT1 (tk k _i s : Nat) : Bool := (Nat.beq k 8 && Nat.beq s 7) || ((Nat.beq k 50 || (Nat.beq k 51 || Nat.beq k 52)) && Nat.beq s tk)
theorem TpC.un {w : Nat → Nat → Nat → Bool} {M M' : Mem} {B : Nat → Nat} {n : Nat} (h : TpC M B n) (hU : Un w M M') (h1 : w 8 0 5 = false) (h2 : w 8 0 6 = false) (h3 : ∀ s, w 63 0 s = false) (h4 : ∀ s, w 49 0 s = false) : TpC M' B n :=
  ⟨⟨(hU.R h1).trans h.1.1, (hU.I h2).trans h.1.2⟩, h.2.1, fun i hi => by rw [hU.I (h3 i)]; exact h.2.2.1 i hi, fun s hs => (hU.J (h4 s)).trans (h.2.2.2 s hs)⟩
theorem wT1_at {tk : Nat} : wT1 tk 8 0 7 = true := rfl
theorem wT1_k {tk k : Nat} (h : k = 50 ∨ k = 51 ∨ k = 52) : wT1 tk k 0 tk = true := by
  rcases h with rfl | rfl | rfl <;> simp [wT1, nb_d]
theorem TpC.t1 {M M' : Mem} {B : Nat → Nat} {n tk : Nat} (h : TpC M B n) (hU : Un (wT1 tk) M M') : TpC M' B n := h.un hU rfl rfl (fun _ => rfl) (fun _ => rfl)
set_option maxHeartbeats 1000000 in
theorem c_wordFrom (Ω : Om) (M : Mem) (B : Nat → Nat) (n a tk : Nat) (K : Ka) (hT : TpC M B n) (ha : a ≤ n) (htk : tk ≤ 500) (hat : mI M 8 0 7 = nI a) (h0 : mJ M 52 0 tk = 0)
    (hK : ∀ M', Un (wT1 tk) M M' → mI M' 8 0 7 = nI (wdR B n (n - a) a 0 0).1 → mI M' 51 0 tk = mI M 51 0 tk → mJ M' 52 0 tk = (if 8 < (wdR B n (n - a) a 0 0).2.1 then 0 else (wdR B n (n - a) a 0 0).2.2) → K (some (vI (nI (if 8 < (wdR B n (n - a) a 0 0).2.1 then 1 else wkR (wdR B n (n - a) a 0 0).2.2 22 0)))) M') :
    CallS Ω true m_Tokens_wordFrom [vR (some (8, 0)), vI (nI tk)] M K := by
  have hn := hT.2.1
  -- the words
  have wk : ∀ (f i : Nat) (M1 : Mem) (w : Int64) (l : Nat), i + f = 22 → TpC M1 B n → (K (some (vI (nI (wkR w f i)))) M1) → GoS Ω true m_Tokens_wordFrom K 100 [some (vR (some (8, 0))), some (vI (nI tk)), some (vJ w), none, some (vI (nI l)), some (vI (nI i))] [] M1 0 0 := by
    intro f
    induction f with
    | zero =>
      intro i M1 w l hi hT1 hk
      refine go_wp ok_Tokens_wordFrom [] 250 _ _ _ _ _ _ ?_
      refine And.intro (fun _ => hk) (fun a => absurd (show (22 : Int32) ≤ nI i from nI_le (a := 22) (by omega) (by omega)) a)
    | succ f ih =>
      intro i M1 w l hi hT1 hk
      rw [wkR] at hk
      refine go_wp ok_Tokens_wordFrom [100] 250 _ _ _ _ _ _ ?_
      refine And.intro (fun a => absurd a (nI_ge (b := 22) (by omega) (by decide))) (fun _ => ?_)
      conv => whnf
      refine And.intro (vp_in_nI (by omega) (by decide)) ?_
      rw [nI_clamp (by omega), hT1.2.2.2 i (by omega)]
      refine And.intro (fun e => ?_) (fun e => ?_)
      · have e : ¬ iJ 49 i = w := fun q => e ((lg_cmp_eq _ _).mpr q)
        rw [if_neg e] at hk
        conv => whnf
        have := ih (i + 1) M1 w l (by omega) hT1 hk
        rw [← nI_1] at this
        exact this
      · have e : iJ 49 i = w := (lg_cmp_eq _ _).mp e
        rw [if_pos e] at hk
        conv => whnf
        rw [← nI_add] at hk
        exact hk
  have lp : ∀ (f b l : Nat) (w : Int64) (M1 : Mem) (r5 : Option Vl), b + f = n → l ≤ 2000 - f → Un (wT1 tk) M M1 → mI M1 8 0 7 = nI b → mI M1 51 0 tk = mI M 51 0 tk → mJ M1 52 0 tk = 0 → wdR B n f b l w = wdR B n (n - a) a 0 0 → GoS Ω true m_Tokens_wordFrom K 5 [some (vR (some (8, 0))), some (vI (nI tk)), some (vJ w), none, some (vI (nI l)), r5] [] M1 0 0 := by
    intro f
    induction f with
    | zero =>
      intro b l w M1 r5 hb hl hU h7 h51 h52 he
      have hb : b = n := hb
      have hT1 := hT.t1 hU
      rw [← he] at hK
      refine go_wp ok_Tokens_wordFrom [100] 250 _ _ _ _ _ _ ?_
      conv => whnf
      rw [h7, hT1.1.2]
      refine And.intro (fun _ => ?_) (fun a => absurd (nI_le (a := n) (b := b) (by omega) (by omega)) a)
      refine And.intro (fun c => ?_) (fun c => ?_)
      · have c : nI 8 < nI l := c
        rw [nI_ltI (by omega) (by omega)] at c
        have := hK M1 hU h7 h51 (by rw [if_pos (show 8 < (wdR B n 0 b l w).2.1 from c)]; exact h52)
        rw [if_pos (show 8 < (wdR B n 0 b l w).2.1 from c)] at this
        exact this
      · have c : ¬ nI 8 < nI l := c
        rw [nI_ltI (by omega) (by omega)] at c
        refine And.intro (fun e => absurd e (nI_pos (by omega))) (fun _ => And.intro (fun _ => ?_) (fun e => absurd (show nI tk ≤ 500 from nI_le (b := 500) htk (by decide)) e))
        conv => whnf
        refine And.intro (vp_in_nI (by omega) (by decide)) ?_
        rw [nI_clamp (by omega)]
        conv => whnf
        refine wk 22 0 _ w l rfl (hT1.t1 (tk := tk) (Un.rfl.pJ (wT1_k (by omega)))) ?_
        have := hK (sJ M1 52 0 tk w) (hU.pJ (wT1_k (by omega))) h7 h51 (by rw [if_neg (show ¬ 8 < (wdR B n 0 b l w).2.1 from c), mJ_sJ, if_pos ⟨rfl, rfl, rfl⟩]; rfl)
        rw [if_neg (show ¬ 8 < (wdR B n 0 b l w).2.1 from c)] at this
        exact this
    | succ f ih =>
      intro b l w M1 r5 hb hl hU h7 h51 h52 he
      have hT1 := hT.t1 hU
      have hbn : b < n := by omega
      have hB := (hT.2.2.1 b hbn).2
      rw [wdR] at he
      refine go_wp ok_Tokens_wordFrom [5, 53, 70] 250 _ _ _ _ _ _ ?_
      conv => whnf
      rw [h7, hT1.1.2]
      refine And.intro (fun a => ?_) (fun _ => ?_)
      · rw [nI_leI (by omega) (by omega)] at a; omega
      conv => whnf
      rw [h7]
      refine cl_use (fun K h => c_byteAt Ω M1 B n b K hT1 (by omega) h) trivial ?_
      conv => whnf
      refine cl_use (fun K h => c_isLetter Ω M1 _ K h) trivial ?_
      rw [bA_le (fun _ => hB)]
      have eb : bA B n b = nI (B b) := if_pos hbn
      refine br_bz (fun c => ?_) (fun c => ?_)
      · have c : (Nat.ble (b + 1) n && cLe (B b)) = false := c
        rw [c, if_neg (by decide)] at he
        rw [← he] at hK
        refine go_wp ok_Tokens_wordFrom [100] 250 _ _ _ _ _ _ ?_
        refine And.intro (fun c => ?_) (fun c => ?_)
        · have c : nI 8 < nI l := c
          rw [nI_ltI (by omega) (by omega)] at c
          have := hK M1 hU h7 h51 (by rw [if_pos (show 8 < (b, l, w).2.1 from c)]; exact h52)
          rw [if_pos (show 8 < (b, l, w).2.1 from c)] at this
          exact this
        · have c : ¬ nI 8 < nI l := c
          rw [nI_ltI (by omega) (by omega)] at c
          refine And.intro (fun e => absurd e (nI_pos (by omega))) (fun _ => And.intro (fun _ => ?_) (fun e => absurd (show nI tk ≤ 500 from nI_le (b := 500) htk (by decide)) e))
          conv => whnf
          refine And.intro (vp_in_nI (by omega) (by decide)) ?_
          rw [nI_clamp (by omega)]
          conv => whnf
          refine wk 22 0 _ w l rfl (hT1.t1 (tk := tk) (Un.rfl.pJ (wT1_k (by omega)))) ?_
          have := hK (sJ M1 52 0 tk w) (hU.pJ (wT1_k (by omega))) h7 h51 (by rw [if_neg (show ¬ 8 < (b, l, w).2.1 from c), mJ_sJ, if_pos ⟨rfl, rfl, rfl⟩])
          rw [if_neg (show ¬ 8 < (b, l, w).2.1 from c)] at this
          exact this
      · have c : (Nat.ble (b + 1) n && cLe (B b)) = true := c
        rw [c, if_pos rfl] at he
        have go : ∀ w2, w2 = (if l < 8 then ltV w (B b) else w) → GoS Ω true m_Tokens_wordFrom K 53 [some (vR (some (8, 0))), some (vI (nI tk)), some (vJ w), none, some (vI (nI l)), r5] [vJ w2] M1 0 0 := by
          rintro w2 rfl
          refine go_wp ok_Tokens_wordFrom [5] 250 _ _ _ _ _ _ ?_
          conv => whnf
          rw [h7]
          have := ih (b + 1) (l + 1) (if l < 8 then ltV w (B b) else w) (sI M1 8 0 7 (nI (b + 1))) r5 (by omega) (by omega) (hU.pI wT1_at) mI_eq ((mI_ne rfl).trans h51) h52 he
          rw [← nI_1, ← nI_1] at this
          exact this
        conv => whnf
        refine And.intro (fun d => ?_) (fun d => ?_)
        · have d : nI 8 ≤ nI l := d
          rw [nI_leI (by omega) (by omega)] at d
          conv => whnf
          exact go w (by rw [if_neg (by omega)])
        · have d : ¬ nI 8 ≤ nI l := d
          rw [nI_leI (by omega) (by omega)] at d
          conv => whnf
          rw [h7]
          refine cl_use (fun K h => c_byteAt Ω M1 B n b K hT1 (by omega) h) trivial ?_
          rw [eb]
          conv => whnf
          refine cl_use (fun K h => c_withLetter Ω M1 w (B b) K h) trivial ?_
          conv => whnf
          exact go _ (by rw [if_pos (by omega)])
  refine call_go (hJL rfl) (Nat.le_of_ble_eq_true rfl) (go_wp ok_Tokens_wordFrom [5] 250 _ _ _ _ _ _ ?_)
  conv => whnf
  exact lp (n - a) a 0 0 M none (by omega) (by omega) Un.rfl hat rfl h0 rfl
set_option maxHeartbeats 1000000 in
theorem c_numberFrom (Ω : Om) (M : Mem) (B : Nat → Nat) (n a tk : Nat) (K : Ka) (hT : TpC M B n) (ha : a ≤ n) (htk : tk ≤ 500) (hat : mI M 8 0 7 = nI a) (h0 : mJ M 52 0 tk = 0)
    (hK : ∀ M', Un (wT1 tk) M M' → mI M' 8 0 7 = nI (dgR B n (n - a) a 0 0).1 → mI M' 51 0 tk = mI M 51 0 tk → mJ M' 52 0 tk = (if 4 < (dgR B n (n - a) a 0 0).2.1 then 0 else (nI (dgR B n (n - a) a 0 0).2.2).toInt64) → K (some (vI (nI (if 4 < (dgR B n (n - a) a 0 0).2.1 then 1 else 3)))) M') :
    CallS Ω true m_Tokens_numberFrom [vR (some (8, 0)), vI (nI tk)] M K := by
  have hn := hT.2.1
  have fin : ∀ (b l v : Nat) (M1 : Mem), b ≤ 2000 → l ≤ 2000 → Un (wT1 tk) M M1 → mI M1 8 0 7 = nI b → mI M1 51 0 tk = mI M 51 0 tk → mJ M1 52 0 tk = 0 → (b, l, v) = dgR B n (n - a) a 0 0 → GoS Ω true m_Tokens_numberFrom K 71 [some (vR (some (8, 0))), some (vI (nI tk)), some (vI (nI v)), some (vI (nI l))] [] M1 0 0 := by
    intro b l v M1 hb hl hU h7 h51 h52 he
    rw [← he] at hK
    refine go_wp ok_Tokens_numberFrom [] 250 _ _ _ _ _ _ ?_
    refine And.intro (fun c => ?_) (fun c => ?_)
    · have c : nI 4 < nI l := c
      rw [nI_ltI (by omega) (by omega)] at c
      have := hK M1 hU h7 h51 (by rw [if_pos (show 4 < (b, l, v).2.1 from c)]; exact h52)
      rw [if_pos (show 4 < (b, l, v).2.1 from c)] at this
      exact this
    · have c : ¬ nI 4 < nI l := c
      rw [nI_ltI (by omega) (by omega)] at c
      refine And.intro (fun e => absurd e (nI_pos (by omega))) (fun _ => And.intro (fun _ => ?_) (fun e => absurd (show nI tk ≤ 500 from nI_le (b := 500) htk (by decide)) e))
      conv => whnf
      refine And.intro (vp_in_nI (by omega) (by decide)) ?_
      rw [nI_clamp (by omega)]
      have := hK (sJ M1 52 0 tk (nI v).toInt64) (hU.pJ (wT1_k (by omega))) h7 h51 (by rw [if_neg (show ¬ 4 < (b, l, v).2.1 from c), mJ_sJ, if_pos ⟨rfl, rfl, rfl⟩])
      rw [if_neg (show ¬ 4 < (b, l, v).2.1 from c)] at this
      exact this
  have lp : ∀ (f b l v : Nat) (M1 : Mem), b + f = n → l ≤ 2000 - f → Un (wT1 tk) M M1 → mI M1 8 0 7 = nI b → mI M1 51 0 tk = mI M 51 0 tk → mJ M1 52 0 tk = 0 → dgR B n f b l v = dgR B n (n - a) a 0 0 → GoS Ω true m_Tokens_numberFrom K 4 [some (vR (some (8, 0))), some (vI (nI tk)), some (vI (nI v)), some (vI (nI l))] [] M1 0 0 := by
    intro f
    induction f with
    | zero =>
      intro b l v M1 hb hl hU h7 h51 h52 he
      have hb : b = n := hb
      have hT1 := hT.t1 hU
      refine go_wp ok_Tokens_numberFrom [71] 250 _ _ _ _ _ _ ?_
      conv => whnf
      rw [h7, hT1.1.2]
      refine And.intro (fun _ => ?_) (fun a => absurd (nI_le (a := n) (b := b) (by omega) (by omega)) a)
      exact fin b l v M1 (by omega) (by omega) hU h7 h51 h52 he
    | succ f ih =>
      intro b l v M1 hb hl hU h7 h51 h52 he
      have hT1 := hT.t1 hU
      have hbn : b < n := by omega
      have hB := (hT.2.2.1 b hbn).2
      rw [dgR] at he
      refine go_wp ok_Tokens_numberFrom [4, 54, 71] 250 _ _ _ _ _ _ ?_
      conv => whnf
      rw [h7, hT1.1.2]
      refine And.intro (fun a => ?_) (fun _ => ?_)
      · rw [nI_leI (by omega) (by omega)] at a; omega
      conv => whnf
      rw [h7]
      refine cl_use (fun K h => c_byteAt Ω M1 B n b K hT1 (by omega) h) trivial ?_
      conv => whnf
      refine cl_use (fun K h => c_isDigit Ω M1 _ K h) trivial ?_
      rw [bA_di (fun _ => hB)]
      have eb : bA B n b = nI (B b) := if_pos hbn
      refine br_bz (fun c => ?_) (fun c => ?_)
      · have c : (Nat.ble (b + 1) n && cDi (B b)) = false := c
        rw [c, if_neg (by decide)] at he
        exact fin b l v M1 (by omega) (by omega) hU h7 h51 h52 he
      · have c : (Nat.ble (b + 1) n && cDi (B b)) = true := c
        rw [c, if_pos rfl] at he
        have c48 : 48 ≤ B b := Nat.le_of_ble_eq_true (Bool.and_eq_true_iff.mp (Bool.and_eq_true_iff.mp c).2).1
        have go : ∀ x, x = nI (if l < 4 then v * 10 + (B b - 48) else v) → GoS Ω true m_Tokens_numberFrom K 54 [some (vR (some (8, 0))), some (vI (nI tk)), some (vI (nI v)), some (vI (nI l))] [vI x] M1 0 0 := by
          rintro x rfl
          refine go_wp ok_Tokens_numberFrom [4] 250 _ _ _ _ _ _ ?_
          conv => whnf
          rw [h7]
          have := ih (b + 1) (l + 1) (if l < 4 then v * 10 + (B b - 48) else v) (sI M1 8 0 7 (nI (b + 1))) (by omega) (by omega) (hU.pI wT1_at) mI_eq ((mI_ne rfl).trans h51) h52 he
          rw [← nI_1, ← nI_1] at this
          exact this
        conv => whnf
        refine And.intro (fun d => ?_) (fun d => ?_)
        · have d : nI 4 ≤ nI l := d
          rw [nI_leI (by omega) (by omega)] at d
          conv => whnf
          exact go (nI v) (by rw [if_neg (by omega)])
        · have d : ¬ nI 4 ≤ nI l := d
          rw [nI_leI (by omega) (by omega)] at d
          conv => whnf
          rw [h7]
          refine cl_use (fun K h => c_byteAt Ω M1 B n b K hT1 (by omega) h) trivial ?_
          rw [eb]
          conv => whnf
          exact go _ (by rw [if_pos (by omega), ← nI_add, ← pk_mul, ← pk_sub c48]; rfl)
  refine call_go (hJL rfl) (Nat.le_of_ble_eq_true rfl) (go_wp ok_Tokens_numberFrom [4] 250 _ _ _ _ _ _ ?_)
  conv => whnf
  exact lp (n - a) a 0 0 M (by omega) (by omega) Un.rfl hat rfl h0 rfl
