/-! WHAT THE TABLES SAY AND KEEP SAYING -/
def gw : List Cond := lw_tbl.filter goodWord
def isNest (w : Cond) : Bool := match w with
  | .fieldLinkNest .. => true
  | .methodLinkNest .. => true
  | _ => false
def nw : List Cond := tables_1.filter isNest
def tagT (t : Nat) : FieldType := match t with
  | 0 => .int
  | 1 => .byte
  | 2 => .boolean
  | 3 => .long
  | _ => .object (clR (t - 10))
def tagL : List Nat := [0, 1, 2, 3, 13, 17, 20]
def strB : List Int32 := "law  drag hingewing bar  deep stiffsweepmass if   on   or   and  not  slantlift widthtwistat   speedbend down ".toList.map (fun c => Int32.ofNat c.toNat)
def oA (Ω : Om) : Nat → Prop := fun q => oB Ω ≤ q
/-- what is used of statics and texts, over the heap below the floor -/
def StrT (Ω : Om) (U : State) : Prop :=
  vk_R "WingHouse$Tokens" 11 "law  drag hingewing bar  deep stiffsweepmass if   on   or   and  not  slantlift widthtwistat   speedbend down " (oSt Ω) U ∧
  vk_S 1 [110] [strB] (fun _ => oSt Ω) (fun _ => oSv Ω) (oA Ω) U (oH Ω) ∧
  va_Z "java/lang/String" "COMPACT_STRINGS" "Z" (.int 1) (oA Ω) U (oH Ω) ∧
  va_Zq "jdk/internal/util/Preconditions" "SIOOBE_FORMATTER" "Ljava/util/function/BiFunction;" (oA Ω) U (oH Ω)
def AmbT (Ω : Om) (U : State) : Prop :=
  (∀ w ∈ gw, ∀ a, w.before a U = true) ∧ (∀ w ∈ nw, va_Nw w U) ∧ va_K (oD Ω) cl [] U ∧
  (∀ t ∈ tagL, ArrOfT U (oT Ω t) (tagT t) ∧ va_RA U (oT Ω t) (tagT t) ∧ (10 ≤ t → va_AO (clR (t - 10)) U)) ∧
  (va_X (oS Ω) (oN Ω) (oX Ω) U (oH Ω) ∧ oS Ω < oB Ω ∧ oN Ω < 2 ^ 31) ∧
  (va_Z "WingHouse$Solver" "SHARES" "[I" (.ref (oSh Ω)) (oA Ω) U (oH Ω) ∧ va_T .int (oSh Ω) 10 (fun j => .int (shT j)) (oA Ω) U (oH Ω)) ∧ StrT Ω U
theorem nw_nest {w : Cond} (h : w ∈ nw) : isNest w = true := (List.mem_filter.mp h).2
theorem gw_good {w : Cond} (h : w ∈ gw) : goodWord w = true := (List.mem_filter.mp h).2
theorem AmbT.moved {Ω : Om} {s U : State} (hW : s.WarmedH U.vm) (h : AmbT Ω s) : AmbT Ω U := by
  obtain ⟨h1, h2, h3, h4, ⟨h5, h6⟩, ⟨h7, h8⟩, h9, h10, h11, h12⟩ := h
  refine ⟨fun w hw a => word_at hW (good_of_word (gw_good hw)) (h1 w hw #[]), fun w hw => ?_, va_K.moved hW.alike h3, fun t ht => ⟨arrOfT_moved hW.alike (h4 t ht).1, (h4 t ht).2.1.moved hW.alike, fun h => ((h4 t ht).2.2 h).moved hW.alike⟩, ⟨h5.moved hW.alike, h6⟩, ⟨h7.moved hW.alike, h8.moved hW.alike⟩, h9.warm hW, h10.moved hW.alike, h11.moved hW.alike, h12.moved hW.alike⟩
  have hn := nw_nest hw
  have hz := h2 w hw
  cases w <;> first | (exact va_Nw.warmF hW hz) | (exact va_Nw.warmM hW hz) | (cases hn)
theorem word_vm {w : Cond} (hg : goodWord w = true) {u U : State} (h : U.vm = u.vm) {a b : Array Value} (hb : w.before a u = true) : w.before b U = true :=
  word_at (s := u) (by rw [h]; exact State.WarmedH.refl u) (good_of_word hg) hb
theorem AmbT.same {Ω : Om} {u U : State} (h : U.vm = u.vm) (hA : AmbT Ω u) : AmbT Ω U := hA.moved (by rw [h]; exact State.WarmedH.refl u)
/-- the whole context of a method's body -/
def Cx (Ω : Om) (i : Nat) (p : Program) (s : State) (m : MethodId) (meth : Method) (cf : Code) : Prop :=
  p.tables.exec = Jvm.exec ∧ cf.code = mB i ∧ cf.maxLocals = mL i ∧ s.vm.findClass (ownR (mOw i)) = some m.cls ∧ AmbT Ω s ∧ meth.name = (mt i).1.name ∧
  (∀ q, q < oB Ω → s.heap[q]? = (oH Ω)[q]?) ∧ oB Ω ≤ s.heap.size
def SOk (M : Mem) : List Vl → Prop
  | [] => True
  | v :: r => VOk M v ∧ SOk M r
theorem VOk_I (M : Mem) (x : Int32) : VOk M (vI x) := fun q h => by cases h
theorem VOk_J (M : Mem) (x : Int64) : VOk M (vJ x) := fun q h => by cases h
theorem VOk_N (M : Mem) : VOk M (vR none) := fun q h => by cases h
theorem SOk.mem {M : Mem} {st : List Vl} (h : SOk M st) : ∀ v ∈ st, VOk M v := by
  induction st with
  | nil => intro v hv; cases hv
  | cons a st ih =>
    intro v hv
    rcases List.mem_cons.mp hv with rfl | hv
    · exact h.1
    · exact ih h.2 v hv
theorem SOk.of {M : Mem} {st : List Vl} (h : ∀ v ∈ st, VOk M v) : SOk M st := by
  induction st with
  | nil => trivial
  | cons a st ih => exact ⟨h a List.mem_cons_self, ih fun v hv => h v (List.mem_cons_of_mem _ hv)⟩
def LOk (M : Mem) (ls : List (Option Vl)) : Prop := ∀ k v, lG ls k = some v → VOk M v
theorem LOk.l1 {M : Mem} {ls : List (Option Vl)} {k : Nat} {v : Vl} (h : LOk M ls) (hv : VOk M v) : LOk M (l1 ls k v) := fun j w hj => by
  rcases zz_l1 hj with ⟨-, rfl⟩ | ⟨-, h2, -⟩
  · exact hv
  · exact h j w h2
theorem LOk.l2 {M : Mem} {ls : List (Option Vl)} {k : Nat} {v : Vl} (h : LOk M ls) (hv : VOk M v) : LOk M (l2 ls k v) := fun j w hj => by
  rcases zz_l2 hj with ⟨-, rfl⟩ | ⟨-, -, h2, -⟩
  · exact hv
  · exact h j w h2
/-- what was there stays where it was -/
def Ext (ad0 : Nat → Nat → Nat) (M0 : Mem) (ad : Nat → Nat → Nat) (M : Mem) : Prop := (∀ k, mC M0 k ≤ mC M k) ∧ ∀ q, okR M0 q → ad q.1 q.2 = ad0 q.1 q.2
def rmM (i : Nat) : Room := { frames := mFr i, cells := mCe i, slots := mSl i, locals := mLo i }
abbrev F1 (m : MethodId) (ad : Nat → Nat → Nat) (pc : Nat) (lsR : Array Slot) (st : List Vl) : JFrame := F0 m pc lsR (st.map (val ad))
/-- from this state of the small machine the machine comes to Q -/
def WW (Ω : Om) (md : Bool) (i : Nat) (p : Program) (e : Env) (s : State) (m : MethodId) (args : Array Value) (below : List Frame) (meth : Method) (cf : Code) (Q : State → Prop) (ad0 : Nat → Nat → Nat) (M0 : Mem) : Co :=
  fun pc ls st M c n => ∀ (H : Heap) (locs : List Loc) (ad : Nat → Nat → Nat) (lsR : Array Slot), RelW Ω md ad M H → LRel ad ls lsR (mL i) → LOk M ls → SOk M st → va_S (oA Ω) s.heap H locs → c ≤ mCe i → n ≤ mSl i → Ext ad0 M0 ad M →
    W p (oL Ω) e (rmM i) s m args below meth cf H locs c n Q (F1 m ad pc lsR st)
