/-! THE WORDS OF METHODS, CLASSES, CONSTANTS -/
def cdW (j : Nat) : Cond := .code (mt j).1 (mB j) (mL j) (mT j)
def slW (j : Nat) : Cond := .selects (mt j).1.cls (mt j).1 (mt j).1
def mlW (x : Nat × Nat × Nat × Nat) : Cond := match x.2.2.2 with
  | 1 => .methodLinkNest (ownR x.1) x.2.1 (mt x.2.2.1).1 "WingHouse"
  | 3 => .methodLinkNest (ownR x.1) x.2.1 (mt x.2.2.1).1 "WingHouse"
  | 5 => .methodLinkNest (ownR x.1) x.2.1 (mt x.2.2.1).1 "WingHouse"
  | _ => .methodLink (ownR x.1) x.2.1 (mt x.2.2.1).1
set_option maxRecDepth 20000 in
theorem zz_JL0 : ([107, 26, 80, 251, 253, 252, 254, 256, 255, 263, 259, 260, 258, 257, 81, 60, 15] : List Nat).map cdW = ([26, 36, 42, 48, 52, 58, 62, 65, 68, 73, 76, 79, 82, 86, 95, 160, 166] : List Nat).filterMap (fun i => tables_1_1[i]?) := rfl
set_option maxRecDepth 20000 in
theorem zz_JL1 : ([96, 261, 9, 262, 50, 70, 0, 22, 104] : List Nat).map cdW = ([9, 16, 44, 48, 81, 115, 125, 161, 177] : List Nat).filterMap (fun i => tables_1_2[i]?) := rfl
set_option maxRecDepth 20000 in
theorem zz_JL2 : ([108, 109, 110, 111, 27, 87, 92, 91, 82, 83, 93, 84, 94, 95, 71, 105, 16, 1, 88, 36, 29, 31, 34, 90, 72] : List Nat).map cdW = ([97, 101, 105, 109, 113, 117, 121, 125, 128, 131, 135, 138, 142, 146, 150, 154, 158, 167, 171, 175, 179, 183, 187, 191, 195] : List Nat).filterMap (fun i => tables_1_3[i]?) := rfl
set_option maxRecDepth 20000 in
theorem zz_JL3 : ([30, 74, 37, 33, 32, 23, 24, 38, 39, 40, 35] : List Nat).map cdW = ([199, 203, 207, 211, 215, 219, 223, 227, 231, 235, 239] : List Nat).filterMap (fun i => tables_1_3[i]?) := rfl
set_option maxRecDepth 20000 in
theorem zz_JL4 : ([73, 106, 41, 42, 43, 44, 45, 48, 46, 86, 2, 47, 49, 85, 3, 28, 89, 112, 113, 114, 119, 76, 25, 120, 121] : List Nat).map cdW = ([3, 8, 11, 15, 19, 23, 27, 31, 35, 38, 42, 45, 49, 55, 59, 63, 67, 71, 75, 79, 83, 88, 92, 97, 101] : List Nat).filterMap (fun i => tables_1_4[i]?) := rfl
set_option maxRecDepth 20000 in
theorem zz_JL5 : ([122, 115, 75, 116, 117, 61, 17, 125, 64, 65, 66, 118, 67, 68, 18, 123, 124, 63, 19, 127, 126, 128, 129, 20, 77] : List Nat).map cdW = ([105, 108, 112, 115, 118, 122, 128, 135, 139, 143, 148, 153, 157, 163, 170, 174, 178, 182, 186, 190, 194, 198, 203, 208, 213] : List Nat).filterMap (fun i => tables_1_4[i]?) := rfl
set_option maxRecDepth 20000 in
theorem zz_JL6 : ([21, 130, 78, 4, 7] : List Nat).map cdW = ([220, 224, 228, 232, 237] : List Nat).filterMap (fun i => tables_1_4[i]?) := rfl
set_option maxRecDepth 20000 in
theorem zz_JL7 : ([6, 5, 8, 131, 132, 97, 133, 134, 98, 69, 135, 136, 137, 99, 100, 138, 101, 102, 103, 139, 140, 244, 10, 11, 12] : List Nat).map cdW = ([1, 6, 10, 14, 18, 22, 36, 40, 44, 48, 56, 60, 64, 68, 71, 77, 81, 85, 90, 104, 108, 111, 118, 122, 129] : List Nat).filterMap (fun i => tables_1_5[i]?) := rfl
set_option maxRecDepth 20000 in
theorem zz_JL8 : ([62, 13, 141, 14, 142, 51, 143, 53, 52, 144, 54, 145, 55, 146, 57, 56, 147, 58, 59, 148, 79] : List Nat).map cdW = ([134, 142, 147, 151, 155, 160, 164, 168, 172, 176, 180, 187, 191, 202, 206, 210, 215, 219, 224, 230, 234] : List Nat).filterMap (fun i => tables_1_5[i]?) := rfl
set_option maxRecDepth 20000 in
theorem zz_JL9 : ([149, 157, 156] : List Nat).map cdW = ([0, 4, 7] : List Nat).filterMap (fun i => tables_1_6[i]?) := rfl
set_option maxRecDepth 20000 in
theorem zz_JL10 : ([150, 151, 152, 166, 159, 153, 158, 155, 154, 160, 161, 168, 162, 172, 164, 169, 165, 163, 170, 171, 173, 176, 174, 175, 177] : List Nat).map cdW = ([87, 91, 95, 99, 103, 107, 111, 114, 117, 121, 125, 129, 133, 137, 141, 145, 149, 153, 157, 161, 165, 169, 173, 177, 181] : List Nat).filterMap (fun i => tables_1_7[i]?) := rfl
set_option maxRecDepth 20000 in
theorem zz_JL11 : ([178, 179, 182, 183, 180, 181, 167, 203, 200, 205, 187, 206, 207, 202] : List Nat).map cdW = ([185, 189, 193, 197, 201, 205, 209, 213, 216, 220, 225, 229, 233, 236] : List Nat).filterMap (fun i => tables_1_7[i]?) := rfl
set_option maxRecDepth 20000 in
theorem zz_JL12 : ([208, 204, 201, 195, 194, 196, 193, 190, 188, 189, 191, 192, 197, 209, 210, 212, 211, 213, 214, 198, 215, 199, 186, 185, 184] : List Nat).map cdW = ([0, 4, 7, 11, 15, 19, 23, 27, 33, 38, 42, 48, 52, 56, 60, 64, 68, 72, 76, 80, 87, 91, 95, 99, 103] : List Nat).filterMap (fun i => tables_1_8[i]?) := rfl
set_option maxRecDepth 20000 in
theorem zz_JL13 : ([216, 217, 218, 220, 219, 221, 222, 223, 226, 225, 224, 227, 229, 228, 230, 231, 233, 232, 235, 234, 238, 237, 236, 241, 240] : List Nat).map cdW = ([107, 111, 115, 119, 123, 127, 131, 135, 141, 145, 149, 154, 158, 161, 166, 170, 175, 179, 183, 187, 192, 196, 200, 205, 209] : List Nat).filterMap (fun i => tables_1_8[i]?) := rfl
set_option maxRecDepth 20000 in
theorem zz_JL14 : ([239, 242, 243] : List Nat).map cdW = ([213, 217, 222] : List Nat).filterMap (fun i => tables_1_8[i]?) := rfl
theorem zz_tb1 {w : Cond} (h : w ∈ tables_1_1) : w ∈ tables_1 := List.mem_append_left _ h
theorem zz_tb2 {w : Cond} (h : w ∈ tables_1_2) : w ∈ tables_1 := List.mem_append_right _ (List.mem_append_left _ h)
theorem zz_tb3 {w : Cond} (h : w ∈ tables_1_3) : w ∈ tables_1 := List.mem_append_right _ (List.mem_append_right _ (List.mem_append_left _ h))
theorem zz_tb4 {w : Cond} (h : w ∈ tables_1_4) : w ∈ tables_1 := List.mem_append_right _ (List.mem_append_right _ (List.mem_append_right _ (List.mem_append_left _ h)))
theorem zz_tb5 {w : Cond} (h : w ∈ tables_1_5) : w ∈ tables_1 := List.mem_append_right _ (List.mem_append_right _ (List.mem_append_right _ (List.mem_append_right _ (List.mem_append_left _ h))))
theorem zz_tb6 {w : Cond} (h : w ∈ tables_1_6) : w ∈ tables_1 := List.mem_append_right _ (List.mem_append_right _ (List.mem_append_right _ (List.mem_append_right _ (List.mem_append_right _ (List.mem_append_left _ h)))))
theorem zz_tb7 {w : Cond} (h : w ∈ tables_1_7) : w ∈ tables_1 := List.mem_append_right _ (List.mem_append_right _ (List.mem_append_right _ (List.mem_append_right _ (List.mem_append_right _ (List.mem_append_right _ (List.mem_append_left _ h))))))
theorem zz_tb8 {w : Cond} (h : w ∈ tables_1_8) : w ∈ tables_1 := List.mem_append_right _ (List.mem_append_right _ (List.mem_append_right _ (List.mem_append_right _ (List.mem_append_right _ (List.mem_append_right _ (List.mem_append_right _ (h)))))))
theorem zz_fm {T ws : List Cond} {ps : List Nat} (h : ws = ps.filterMap (fun i => T[i]?)) : ∀ w ∈ ws, w ∈ T := by
  intro w hw
  rw [h] at hw
  obtain ⟨i, -, hi⟩ := List.mem_filterMap.mp hw
  exact List.mem_of_getElem? hi
theorem zz_JLsplit : JL = [107, 26, 80, 251, 253, 252, 254, 256, 255, 263, 259, 260, 258, 257, 81, 60, 15] ++ ([96, 261, 9, 262, 50, 70, 0, 22, 104] ++ ([108, 109, 110, 111, 27, 87, 92, 91, 82, 83, 93, 84, 94, 95, 71, 105, 16, 1, 88, 36, 29, 31, 34, 90, 72] ++ ([30, 74, 37, 33, 32, 23, 24, 38, 39, 40, 35] ++ ([73, 106, 41, 42, 43, 44, 45, 48, 46, 86, 2, 47, 49, 85, 3, 28, 89, 112, 113, 114, 119, 76, 25, 120, 121] ++ ([122, 115, 75, 116, 117, 61, 17, 125, 64, 65, 66, 118, 67, 68, 18, 123, 124, 63, 19, 127, 126, 128, 129, 20, 77] ++ ([21, 130, 78, 4, 7] ++ ([6, 5, 8, 131, 132, 97, 133, 134, 98, 69, 135, 136, 137, 99, 100, 138, 101, 102, 103, 139, 140, 244, 10, 11, 12] ++ ([62, 13, 141, 14, 142, 51, 143, 53, 52, 144, 54, 145, 55, 146, 57, 56, 147, 58, 59, 148, 79] ++ ([149, 157, 156] ++ ([150, 151, 152, 166, 159, 153, 158, 155, 154, 160, 161, 168, 162, 172, 164, 169, 165, 163, 170, 171, 173, 176, 174, 175, 177] ++ ([178, 179, 182, 183, 180, 181, 167, 203, 200, 205, 187, 206, 207, 202] ++ ([208, 204, 201, 195, 194, 196, 193, 190, 188, 189, 191, 192, 197, 209, 210, 212, 211, 213, 214, 198, 215, 199, 186, 185, 184] ++ ([216, 217, 218, 220, 219, 221, 222, 223, 226, 225, 224, 227, 229, 228, 230, 231, 233, 232, 235, 234, 238, 237, 236, 241, 240] ++ ([239, 242, 243])))))))))))))) := by decide +kernel
theorem JL_in {j : Nat} (h : j ∈ JL) : cdW j ∈ gw := by
  refine zz_tblw ?_ rfl
  rw [zz_JLsplit] at h
  simp only [List.mem_append] at h
  rcases h with h | h | h | h | h | h | h | h | h | h | h | h | h | h | h
  · exact zz_tb1 (zz_fm zz_JL0 _ (List.mem_map.mpr ⟨j, h, rfl⟩))
  · exact zz_tb2 (zz_fm zz_JL1 _ (List.mem_map.mpr ⟨j, h, rfl⟩))
  · exact zz_tb3 (zz_fm zz_JL2 _ (List.mem_map.mpr ⟨j, h, rfl⟩))
  · exact zz_tb3 (zz_fm zz_JL3 _ (List.mem_map.mpr ⟨j, h, rfl⟩))
  · exact zz_tb4 (zz_fm zz_JL4 _ (List.mem_map.mpr ⟨j, h, rfl⟩))
  · exact zz_tb4 (zz_fm zz_JL5 _ (List.mem_map.mpr ⟨j, h, rfl⟩))
  · exact zz_tb4 (zz_fm zz_JL6 _ (List.mem_map.mpr ⟨j, h, rfl⟩))
  · exact zz_tb5 (zz_fm zz_JL7 _ (List.mem_map.mpr ⟨j, h, rfl⟩))
  · exact zz_tb5 (zz_fm zz_JL8 _ (List.mem_map.mpr ⟨j, h, rfl⟩))
  · exact zz_tb6 (zz_fm zz_JL9 _ (List.mem_map.mpr ⟨j, h, rfl⟩))
  · exact zz_tb7 (zz_fm zz_JL10 _ (List.mem_map.mpr ⟨j, h, rfl⟩))
  · exact zz_tb7 (zz_fm zz_JL11 _ (List.mem_map.mpr ⟨j, h, rfl⟩))
  · exact zz_tb8 (zz_fm zz_JL12 _ (List.mem_map.mpr ⟨j, h, rfl⟩))
  · exact zz_tb8 (zz_fm zz_JL13 _ (List.mem_map.mpr ⟨j, h, rfl⟩))
  · exact zz_tb8 (zz_fm zz_JL14 _ (List.mem_map.mpr ⟨j, h, rfl⟩))
theorem zz_IL : isSub (IL.map (fun j => Cond.instanceMethod (mt j).1)) tables_1 = true := by decide +kernel
theorem zz_ILg : (IL.map (fun j => Cond.instanceMethod (mt j).1)).all goodWord = true := by decide +kernel
theorem zz_TL : isSub (TL.map (fun j => Cond.static (mt j).1)) tables_1 = true := by decide +kernel
theorem zz_TLg : (TL.map (fun j => Cond.static (mt j).1)).all goodWord = true := by decide +kernel
theorem zz_SL : isSub (SL.map (slW)) lw_tbl = true := by decide +kernel
theorem zz_SLg : (SL.map (slW)).all goodWord = true := by decide +kernel
theorem zz_NI : isSub (NI.map (fun o => Cond.initialized (ownR o))) tables_1 = true := by decide +kernel
theorem zz_NIg : (NI.map (fun o => Cond.initialized (ownR o))).all goodWord = true := by decide +kernel
theorem zz_NS : isSub (NS.map (fun k => Cond.instantiable (clR k) (clN k))) tables_1 = true := by decide +kernel
theorem zz_NSg : (NS.map (fun k => Cond.instantiable (clR k) (clN k))).all goodWord = true := by decide +kernel
theorem zz_M6 : isSub (M6.map (fun x => Cond.methodLink (ownR x.1) x.2 Lib.objectInit)) tables_1 = true := by decide +kernel
theorem zz_M6g : (M6.map (fun x => Cond.methodLink (ownR x.1) x.2 Lib.objectInit)).all goodWord = true := by decide +kernel
theorem zz_M7 : isSub (M7.map (fun x => Cond.methodLink (ownR x.1) x.2 arraycopyName)) tables_1 = true := by decide +kernel
theorem zz_M7g : (M7.map (fun x => Cond.methodLink (ownR x.1) x.2 arraycopyName)).all goodWord = true := by decide +kernel
theorem zz_ML : isSub (ML.map (mlW)) tables_1 = true := by decide +kernel
theorem zz_CI : isSub (CI.map (fun x => Cond.constant (ownR x.1) x.2.1 x.2.2)) tables_1 = true := by decide +kernel
theorem zz_CIg : (CI.map (fun x => Cond.constant (ownR x.1) x.2.1 x.2.2)).all goodWord = true := by decide +kernel
theorem zz_CJ : isSub (CJ.map (fun x => Cond.constantLong (ownR x.1) x.2.1 x.2.2)) tables_1 = true := by decide +kernel
theorem zz_CJg : (CJ.map (fun x => Cond.constantLong (ownR x.1) x.2.1 x.2.2)).all goodWord = true := by decide +kernel
theorem zz_NL : isSub (NL.map (fun x => Cond.classLink (ownR x.1) x.2.1 (clR x.2.2))) tables_1 = true := by decide +kernel
theorem zz_NLg : (NL.map (fun x => Cond.classLink (ownR x.1) x.2.1 (clR x.2.2))).all goodWord = true := by decide +kernel
theorem zz_in {ws : List Cond} (h : isSub ws tables_1 = true) (hg : ws.all goodWord = true) {w : Cond} (hw : w ∈ ws) : w ∈ gw := zz_tblw (isSub_mem _ _ h _ hw) (List.all_eq_true.mp hg _ hw)
theorem zz_one : isSub [Cond.instanceMethod Lib.objectInit, Cond.code Lib.objectInit ⟨#[0xb1]⟩ 1 none] tables_1 = true := by decide +kernel
theorem zz_oneg : [Cond.instanceMethod Lib.objectInit, Cond.code Lib.objectInit ⟨#[0xb1]⟩ 1 none].all goodWord = true := by decide +kernel
theorem zz_sys : [Cond.native arraycopyName, Cond.static arraycopyName, Cond.initialized "java/lang/System", Cond.arrayClass .int, Cond.arrayClass .byte, Cond.arrayClass .boolean, Cond.arrayClass .long, Cond.fieldLink "WingHouse$Solver" 130 "WingHouse$Solver" "SHARES" "[I"].all (fun w => decide (w ∈ tables_1) && goodWord w) = true := by decide +kernel
theorem sys_in {w : Cond} (h : w ∈ [Cond.native arraycopyName, Cond.static arraycopyName, Cond.initialized "java/lang/System", Cond.arrayClass .int, Cond.arrayClass .byte, Cond.arrayClass .boolean, Cond.arrayClass .long, Cond.fieldLink "WingHouse$Solver" 130 "WingHouse$Solver" "SHARES" "[I"]) : w ∈ gw := by
  have h1 := List.all_eq_true.mp zz_sys w h
  simp only [Bool.and_eq_true, decide_eq_true_eq] at h1
  exact zz_tblw h1.1 h1.2
/-- what is asked of a method that is called -/
def mOK (j : Nat) : Bool := (NI.elem (mOw j) && (decide ((mt j).1.cls = ownR (mOw j)) && (decide ((mt j).1.cls ≠ "java/lang/invoke/MethodHandle" ∧ (mt j).1.cls ≠ "java/lang/invoke/VarHandle") && (decide ((parseMethodDescriptor (mt j).1.desc).map (fun d => d.parameters.length) = some (if mSt j then mN j else mN j - 1)) && (plainName (mt j).1.cls && (if mSt j then TL.elem j else IL.elem j && decide (0 < mN j)))))))
theorem zz_mOK : JL.all mOK = true := by decide +kernel
theorem SL_in {j : Nat} (h : j ∈ SL) : slW j ∈ gw := by
  have h1 : slW j ∈ SL.map slW := List.mem_map.mpr ⟨j, h, rfl⟩
  exact List.mem_filter.mpr ⟨isSub_mem _ _ zz_SL _ h1, List.all_eq_true.mp zz_SLg _ h1⟩
theorem ML_in {x : Nat × Nat × Nat × Nat} (h : x ∈ ML) : mlW x ∈ tables_1 := isSub_mem _ _ zz_ML _ (List.mem_map.mpr ⟨x, h, rfl⟩)
theorem zz_MLg : ML.all (fun x => isNest (mlW x) || goodWord (mlW x)) = true := by decide +kernel
theorem ML_link {o idx j b : Nat} (h : (o, idx, j, b) ∈ ML) (hb : b ≠ 1 ∧ b ≠ 3 ∧ b ≠ 5) : Cond.methodLink (ownR o) idx (mt j).1 ∈ gw := by
  have h1 := ML_in h
  have h2 := List.all_eq_true.mp zz_MLg _ h
  have h3 : mlW (o, idx, j, b) = Cond.methodLink (ownR o) idx (mt j).1 := by
    unfold mlW
    split
    next hh => exact absurd hh hb.1
    next hh => exact absurd hh hb.2.1
    next hh => exact absurd hh hb.2.2
    next => rfl
  rw [h3] at h1 h2
  exact zz_tblw h1 (by simpa [isNest] using h2)
theorem ML_nest {o idx j b : Nat} (h : (o, idx, j, b) ∈ ML) (hb : b = 1 ∨ b = 3 ∨ b = 5) : Cond.methodLinkNest (ownR o) idx (mt j).1 "WingHouse" ∈ nw := by
  have h1 := ML_in h
  have h3 : mlW (o, idx, j, b) = Cond.methodLinkNest (ownR o) idx (mt j).1 "WingHouse" := by rcases hb with rfl | rfl | rfl <;> rfl
  rw [h3] at h1
  exact List.mem_filter.mpr ⟨h1, rfl⟩
