/-! THE SMALL MACHINE: values, memory by kinds, entries of code -/
abbrev Rf : Type := Option (Nat × Nat)
abbrev Vl : Type := Int32 ⊕ (Int64 ⊕ Rf)
abbrev vI (x : Int32) : Vl := Sum.inl x
abbrev vJ (x : Int64) : Vl := Sum.inr (Sum.inl x)
abbrev vR (r : Rf) : Vl := Sum.inr (Sum.inr r)
abbrev Mem : Type := (Nat → Nat) × (Nat → Nat → Nat → Int32) × (Nat → Nat → Nat → Int64) × (Nat → Nat → Nat → Rf)
def mC (M : Mem) (k : Nat) : Nat := M.1 k
def mI (M : Mem) (k i s : Nat) : Int32 := M.2.1 k i s
def mJ (M : Mem) (k i s : Nat) : Int64 := M.2.2.1 k i s
def mR (M : Mem) (k i s : Nat) : Rf := M.2.2.2 k i s
def sI (M : Mem) (k i s : Nat) (x : Int32) : Mem := (M.1, (fun k' i' s' => if k' = k ∧ i' = i ∧ s' = s then x else M.2.1 k' i' s'), M.2.2.1, M.2.2.2)
def sJ (M : Mem) (k i s : Nat) (x : Int64) : Mem := (M.1, M.2.1, (fun k' i' s' => if k' = k ∧ i' = i ∧ s' = s then x else M.2.2.1 k' i' s'), M.2.2.2)
def sR (M : Mem) (k i s : Nat) (x : Rf) : Mem := (M.1, M.2.1, M.2.2.1, (fun k' i' s' => if k' = k ∧ i' = i ∧ s' = s then x else M.2.2.2 k' i' s'))
/-- a row of longs copied -/
def sCpJ (M : Mem) (k i k2 i2 : Nat) (sp dp n : Nat) : Mem := (M.1, M.2.1, (fun k' i' => if k' = k2 ∧ i' = i2 then va_cpy (M.2.2.1 k i) (M.2.2.1 k2 i2) sp dp n else M.2.2.1 k' i'), M.2.2.2)
def sNew (M : Mem) (k : Nat) : Mem := ((fun k' => if k' = k then M.1 k + 1 else M.1 k'), (fun k' i' s' => if k' = k ∧ i' = M.1 k then 0 else M.2.1 k' i' s'), (fun k' i' s' => if k' = k ∧ i' = M.1 k then 0 else M.2.2.1 k' i' s'), (fun k' i' s' => if k' = k ∧ i' = M.1 k then none else M.2.2.2 k' i' s'))
/-- an entry of code: instruction, the next place, a, b, d, t, an int, a long, a switch's rows -/
abbrev En : Type := Instr × Nat × Nat × Nat × Nat × Nat × Int32 × Int64 × List (Int32 × Nat)
def q0 (x : Instr) (n : Nat) : Option En := some (x, n, 0, 0, 0, 0, 0, 0, [])
def qa (x : Instr) (n a : Nat) : Option En := some (x, n, a, 0, 0, 0, 0, 0, [])
def qb (x : Instr) (n a b d t : Nat) : Option En := some (x, n, a, b, d, t, 0, 0, [])
def qi (x : Instr) (n : Nat) (v : Int32) : Option En := some (x, n, 0, 0, 0, 0, v, 0, [])
def qv (x : Instr) (n a : Nat) (v : Int32) : Option En := some (x, n, a, 0, 0, 0, v, 0, [])
def qj (x : Instr) (n : Nat) (v : Int64) : Option En := some (x, n, 0, 0, 0, 0, 0, v, [])
def qt (x : Instr) (n a : Nat) (l : List (Int32 × Nat)) : Option En := some (x, n, a, 0, 0, 0, 0, 0, l)
def tagF (t : FieldType) : Nat := match t with
  | .int => 0
  | .byte => 1
  | .boolean => 2
  | .long => 3
  | _ => 4
def cl : List vw_C := [(RX0, TX0, 9), (RX1, TX1, 9), (RX2, TX2, 7), (RX3, TX3, 3), (RX4, TX4, 10), (RX5, TX5, 9), (RX6, TX6, 9), (RX7, TX7, 12), (RX8, TX8, 8), (RX9, TX9, 6), (RX10, TX10, 12), (RX11, TX11, 13), (RX12, TX12, 105)]
def clN (c : Nat) : Nat := match c with
  | 0 => 9
  | 1 => 9
  | 2 => 7
  | 3 => 3
  | 4 => 10
  | 5 => 9
  | 6 => 9
  | 7 => 12
  | 8 => 8
  | 9 => 6
  | 10 => 12
  | 11 => 13
  | _ => 105
def clT (c s : Nat) : FieldType := match c with
  | 0 => tyX0 s
  | 1 => tyX1 s
  | 2 => tyX2 s
  | 3 => tyX3 s
  | 4 => tyX4 s
  | 5 => tyX5 s
  | 6 => tyX6 s
  | 7 => tyX7 s
  | 8 => tyX8 s
  | 9 => tyX9 s
  | 10 => tyX10 s
  | 11 => tyX11 s
  | _ => tyX12 s
def clR (c : Nat) : String := match c with
  | 0 => RX0
  | 1 => RX1
  | 2 => RX2
  | 3 => RX3
  | 4 => RX4
  | 5 => RX5
  | 6 => RX6
  | 7 => RX7
  | 8 => RX8
  | 9 => RX9
  | 10 => RX10
  | 11 => RX11
  | _ => RX12
def clF (c : Nat) : u_T := match c with
  | 0 => TX0
  | 1 => TX1
  | 2 => TX2
  | 3 => TX3
  | 4 => TX4
  | 5 => TX5
  | 6 => TX6
  | 7 => TX7
  | 8 => TX8
  | 9 => TX9
  | 10 => TX10
  | 11 => TX11
  | _ => TX12
abbrev k_Bars : Nat := 0
abbrev k_Best : Nat := 1
abbrev k_Flow : Nat := 2
abbrev k_Law : Nat := 3
abbrev k_Reader : Nat := 4
abbrev k_Runs : Nat := 5
abbrev k_Solver : Nat := 6
abbrev k_Text : Nat := 7
abbrev k_Tokens : Nat := 8
abbrev k_Trials : Nat := 9
abbrev k_Wing : Nat := 10
abbrev k_WH : Nat := 11
abbrev k_MD : Nat := 12
abbrev k_Bars_steps : Nat := 13
abbrev k_Bars_values : Nat := 14
abbrev k_Bars_ends : Nat := 15
abbrev k_Bars_vars : Nat := 16
abbrev k_Bars_stack : Nat := 17
abbrev k_Best_told : Nat := 18
abbrev k_Best_low : Nat := 19
abbrev k_Best_high : Nat := 20
abbrev k_Best_trial : Nat := 21
abbrev k_Best_twists : Nat := 22
abbrev k_Flow_g : Nat := 23
abbrev k_Flow_down : Nat := 24
abbrev k_Flow_bend : Nat := 25
abbrev k_Flow_angle : Nat := 26
abbrev k_Law_x : Nat := 27
abbrev k_Law_y : Nat := 28
abbrev k_Reader_pending : Nat := 29
abbrev k_Runs_voidOf : Nat := 30
abbrev k_Runs_wings : Nat := 31
abbrev k_Runs_speeds : Nat := 32
abbrev k_Runs_slants : Nat := 33
abbrev k_Runs_lifts : Nat := 34
abbrev k_Runs_walls : Nat := 35
abbrev k_Runs_unturned : Nat := 36
abbrev k_Solver_still : Nat := 37
abbrev k_Solver_twists : Nat := 38
abbrev k_Solver_lean : Nat := 39
abbrev k_Solver_wash : Nat := 40
abbrev k_Solver_edges : Nat := 41
abbrev k_Text_laws : Nat := 42
abbrev k_Text_hingeMost : Nat := 43
abbrev k_Text_hingeAngles : Nat := 44
abbrev k_Text_wings : Nat := 45
abbrev k_Text_names : Nat := 46
abbrev k_Text_nameSorts : Nat := 47
abbrev k_Text_nameNumbers : Nat := 48
abbrev k_Tokens_words : Nat := 49
abbrev k_Tokens_kinds : Nat := 50
abbrev k_Tokens_froms : Nat := 51
abbrev k_Tokens_values : Nat := 52
abbrev k_Trials_curveLifts : Nat := 53
abbrev k_Trials_restLifts : Nat := 54
abbrev k_Trials_trimSlants : Nat := 55
abbrev k_Trials_trimRising : Nat := 56
abbrev k_Wing_widths : Nat := 57
abbrev k_Wing_laws : Nat := 58
abbrev k_Wing_drags : Nat := 59
abbrev k_Wing_twists : Nat := 60
abbrev k_Wing_hinges : Nat := 61
abbrev k_Wing_mass : Nat := 62
abbrev k_WH_tape : Nat := 63
abbrev k_WH_texts : Nat := 64
abbrev k_WH_gusts : Nat := 65
abbrev k_WH_outs : Nat := 66
abbrev k_MD_tape : Nat := 67
abbrev k_MD_text : Nat := 68
abbrev k_MD_tKind : Nat := 69
abbrev k_MD_tPlace : Nat := 70
abbrev k_MD_tValue : Nat := 71
abbrev k_MD_tName : Nat := 72
abbrev k_MD_keys : Nat := 73
abbrev k_MD_laws : Nat := 74
abbrev k_MD_lawName : Nat := 75
abbrev k_MD_isDrag : Nat := 76
abbrev k_MD_points : Nat := 77
abbrev k_MD_pointX : Nat := 78
abbrev k_MD_pointY : Nat := 79
abbrev k_MD_hinges : Nat := 80
abbrev k_MD_hingeName : Nat := 81
abbrev k_MD_hingeMost : Nat := 82
abbrev k_MD_hingeAngle : Nat := 83
abbrev k_MD_wings : Nat := 84
abbrev k_MD_wingName : Nat := 85
abbrev k_MD_strips : Nat := 86
abbrev k_MD_deep : Nat := 87
abbrev k_MD_stiff : Nat := 88
abbrev k_MD_sweep : Nat := 89
abbrev k_MD_hasMass : Nat := 90
abbrev k_MD_mass : Nat := 91
abbrev k_MD_width : Nat := 92
abbrev k_MD_lawOf : Nat := 93
abbrev k_MD_dragOf : Nat := 94
abbrev k_MD_twistOf : Nat := 95
abbrev k_MD_hingeOf : Nat := 96
abbrev k_MD_bars : Nat := 97
abbrev k_MD_barName : Nat := 98
abbrev k_MD_litFirst : Nat := 99
abbrev k_MD_litLast : Nat := 100
abbrev k_MD_litSort : Nat := 101
abbrev k_MD_litNot : Nat := 102
abbrev k_MD_litOr : Nat := 103
abbrev k_MD_litLeft : Nat := 104
abbrev k_MD_litRight : Nat := 105
abbrev k_MD_litEnd : Nat := 106
abbrev k_MD_code : Nat := 107
abbrev k_MD_codeInt : Nat := 108
abbrev k_MD_waits : Nat := 109
abbrev k_MD_variables : Nat := 110
abbrev k_MD_pile : Nat := 111
abbrev k_MD_gusts : Nat := 112
abbrev k_MD_g : Nat := 113
abbrev k_MD_newG : Nat := 114
abbrev k_MD_down : Nat := 115
abbrev k_MD_bend : Nat := 116
abbrev k_MD_angle : Nat := 117
abbrev k_MD_twistNow : Nat := 118
abbrev k_MD_isSolved : Nat := 119
abbrev k_MD_solvedSpeed : Nat := 120
abbrev k_MD_solvedG : Nat := 121
abbrev k_MD_solvedDown : Nat := 122
abbrev k_MD_solvedBend : Nat := 123
abbrev k_MD_solvedAngle : Nat := 124
abbrev k_MD_curveLift : Nat := 125
abbrev k_MD_isOnCurve : Nat := 126
abbrev k_MD_curveG : Nat := 127
abbrev k_MD_restLift : Nat := 128
abbrev k_MD_isResting : Nat := 129
abbrev k_MD_trimAt : Nat := 130
abbrev k_MD_isRising : Nat := 131
abbrev k_MD_bestTwist : Nat := 132
abbrev k_MD_member : Nat := 133
abbrev k_MD_of : Nat := 134
abbrev k_MD_runWing : Nat := 135
abbrev k_MD_runSpeed : Nat := 136
abbrev k_MD_runSlant : Nat := 137
abbrev k_MD_runLift : Nat := 138
abbrev k_MD_runWall : Nat := 139
abbrev k_MD_isIn : Nat := 140
abbrev kK : Nat := 141
abbrev kSCR : Nat := 141
abbrev kSH : Nat := 142
abbrev kSTR : Nat := 143
/-- what a kind is: an object of a class, or a row (tag, length) -/
def kd0 (k : Nat) : Nat ⊕ (Nat × Nat) :=
 (cond (Nat.ble k 70)
 (cond (Nat.ble k 34)
 (cond (Nat.ble k 16)
 (cond (Nat.ble k 7)
 (cond (Nat.ble k 3)
 (cond (Nat.ble k 1)
 (cond (Nat.ble k 0)
 (.inl 0)
 (.inl 1))
 (cond (Nat.ble k 2)
 (.inl 2)
 (.inl 3)))
 (cond (Nat.ble k 5)
 (cond (Nat.ble k 4)
 (.inl 4)
 (.inl 5))
 (cond (Nat.ble k 6)
 (.inl 6)
 (.inl 7))))
 (cond (Nat.ble k 11)
 (cond (Nat.ble k 9)
 (cond (Nat.ble k 8)
 (.inl 8)
 (.inl 9))
 (cond (Nat.ble k 10)
 (.inl 10)
 (.inl 11)))
 (cond (Nat.ble k 13)
 (cond (Nat.ble k 12)
 (.inl 12)
 (.inr (0, 500)))
 (cond (Nat.ble k 14)
 (.inr (0, 500))
 (cond (Nat.ble k 15)
 (.inr (0, 8))
 (.inr (0, 8)))))))
 (cond (Nat.ble k 25)
 (cond (Nat.ble k 20)
 (cond (Nat.ble k 18)
 (cond (Nat.ble k 17)
 (.inr (0, 32))
 (.inr (0, 4)))
 (cond (Nat.ble k 19)
 (.inr (0, 4))
 (.inr (0, 4))))
 (cond (Nat.ble k 22)
 (cond (Nat.ble k 21)
 (.inr (0, 4))
 (.inr (0, 10)))
 (cond (Nat.ble k 23)
 (.inr (3, 10))
 (cond (Nat.ble k 24)
 (.inr (3, 10))
 (.inr (3, 10))))))
 (cond (Nat.ble k 29)
 (cond (Nat.ble k 27)
 (cond (Nat.ble k 26)
 (.inr (3, 10))
 (.inr (0, 8)))
 (cond (Nat.ble k 28)
 (.inr (0, 8))
 (.inr (0, 32))))
 (cond (Nat.ble k 31)
 (cond (Nat.ble k 30)
 (.inr (0, 60))
 (.inr (0, 60)))
 (cond (Nat.ble k 32)
 (.inr (0, 60))
 (cond (Nat.ble k 33)
 (.inr (0, 60))
 (.inr (0, 60))))))))
 (cond (Nat.ble k 52)
 (cond (Nat.ble k 43)
 (cond (Nat.ble k 38)
 (cond (Nat.ble k 36)
 (cond (Nat.ble k 35)
 (.inr (0, 60))
 (.inr (0, 4)))
 (cond (Nat.ble k 37)
 (.inr (0, 10))
 (.inr (0, 10))))
 (cond (Nat.ble k 40)
 (cond (Nat.ble k 39)
 (.inr (3, 10))
 (.inr (3, 10)))
 (cond (Nat.ble k 41)
 (.inr (3, 11))
 (cond (Nat.ble k 42)
 (.inr (13, 8))
 (.inr (0, 4))))))
 (cond (Nat.ble k 47)
 (cond (Nat.ble k 45)
 (cond (Nat.ble k 44)
 (.inr (0, 4))
 (.inr (20, 4)))
 (cond (Nat.ble k 46)
 (.inr (3, 24))
 (.inr (0, 24))))
 (cond (Nat.ble k 49)
 (cond (Nat.ble k 48)
 (.inr (0, 24))
 (.inr (3, 22)))
 (cond (Nat.ble k 50)
 (.inr (0, 501))
 (cond (Nat.ble k 51)
 (.inr (0, 501))
 (.inr (3, 501)))))))
 (cond (Nat.ble k 61)
 (cond (Nat.ble k 56)
 (cond (Nat.ble k 54)
 (cond (Nat.ble k 53)
 (.inr (3, 61))
 (.inr (3, 61)))
 (cond (Nat.ble k 55)
 (.inr (0, 61))
 (.inr (2, 61))))
 (cond (Nat.ble k 58)
 (cond (Nat.ble k 57)
 (.inr (0, 10))
 (.inr (0, 10)))
 (cond (Nat.ble k 59)
 (.inr (0, 10))
 (cond (Nat.ble k 60)
 (.inr (0, 10))
 (.inr (0, 10))))))
 (cond (Nat.ble k 65)
 (cond (Nat.ble k 63)
 (cond (Nat.ble k 62)
 (.inr (0, 4))
 (.inr (1, 2000)))
 (cond (Nat.ble k 64)
 (.inr (17, 4))
 (.inr (0, 10))))
 (cond (Nat.ble k 67)
 (cond (Nat.ble k 66)
 (.inr (2, 4))
 (.inr (1, 2000)))
 (cond (Nat.ble k 68)
 (.inr (1, 2000))
 (cond (Nat.ble k 69)
 (.inr (0, 503))
 (.inr (0, 503)))))))))
 (cond (Nat.ble k 106)
 (cond (Nat.ble k 88)
 (cond (Nat.ble k 79)
 (cond (Nat.ble k 74)
 (cond (Nat.ble k 72)
 (cond (Nat.ble k 71)
 (.inr (0, 503))
 (.inr (3, 503)))
 (cond (Nat.ble k 73)
 (.inr (3, 22))
 (.inr (0, 5))))
 (cond (Nat.ble k 76)
 (cond (Nat.ble k 75)
 (.inr (3, 40))
 (.inr (2, 40)))
 (cond (Nat.ble k 77)
 (.inr (0, 40))
 (cond (Nat.ble k 78)
 (.inr (0, 320))
 (.inr (0, 320))))))
 (cond (Nat.ble k 83)
 (cond (Nat.ble k 81)
 (cond (Nat.ble k 80)
 (.inr (0, 5))
 (.inr (3, 20)))
 (cond (Nat.ble k 82)
 (.inr (0, 20))
 (.inr (0, 20))))
 (cond (Nat.ble k 85)
 (cond (Nat.ble k 84)
 (.inr (0, 5))
 (.inr (3, 20)))
 (cond (Nat.ble k 86)
 (.inr (0, 20))
 (cond (Nat.ble k 87)
 (.inr (0, 20))
 (.inr (0, 20)))))))
 (cond (Nat.ble k 97)
 (cond (Nat.ble k 92)
 (cond (Nat.ble k 90)
 (cond (Nat.ble k 89)
 (.inr (0, 20))
 (.inr (2, 20)))
 (cond (Nat.ble k 91)
 (.inr (0, 80))
 (.inr (0, 200))))
 (cond (Nat.ble k 94)
 (cond (Nat.ble k 93)
 (.inr (0, 200))
 (.inr (0, 200)))
 (cond (Nat.ble k 95)
 (.inr (0, 200))
 (cond (Nat.ble k 96)
 (.inr (0, 200))
 (.inr (0, 5))))))
 (cond (Nat.ble k 101)
 (cond (Nat.ble k 99)
 (cond (Nat.ble k 98)
 (.inr (3, 40))
 (.inr (0, 40)))
 (cond (Nat.ble k 100)
 (.inr (0, 40))
 (.inr (0, 1000))))
 (cond (Nat.ble k 103)
 (cond (Nat.ble k 102)
 (.inr (2, 1000))
 (.inr (2, 1000)))
 (cond (Nat.ble k 104)
 (.inr (0, 1000))
 (cond (Nat.ble k 105)
 (.inr (0, 1000))
 (.inr (0, 1000))))))))
 (cond (Nat.ble k 124)
 (cond (Nat.ble k 115)
 (cond (Nat.ble k 110)
 (cond (Nat.ble k 108)
 (cond (Nat.ble k 107)
 (.inr (0, 2600))
 (.inr (0, 2600)))
 (cond (Nat.ble k 109)
 (.inr (0, 64))
 (.inr (0, 8))))
 (cond (Nat.ble k 112)
 (cond (Nat.ble k 111)
 (.inr (0, 500))
 (.inr (0, 10)))
 (cond (Nat.ble k 113)
 (.inr (3, 10))
 (cond (Nat.ble k 114)
 (.inr (3, 10))
 (.inr (3, 10))))))
 (cond (Nat.ble k 119)
 (cond (Nat.ble k 117)
 (cond (Nat.ble k 116)
 (.inr (3, 10))
 (.inr (3, 10)))
 (cond (Nat.ble k 118)
 (.inr (0, 10))
 (.inr (2, 20))))
 (cond (Nat.ble k 121)
 (cond (Nat.ble k 120)
 (.inr (0, 20))
 (.inr (3, 200)))
 (cond (Nat.ble k 122)
 (.inr (3, 200))
 (cond (Nat.ble k 123)
 (.inr (3, 200))
 (.inr (3, 200)))))))
 (cond (Nat.ble k 133)
 (cond (Nat.ble k 128)
 (cond (Nat.ble k 126)
 (cond (Nat.ble k 125)
 (.inr (3, 61))
 (.inr (2, 61)))
 (cond (Nat.ble k 127)
 (.inr (3, 10))
 (.inr (3, 61))))
 (cond (Nat.ble k 130)
 (cond (Nat.ble k 129)
 (.inr (2, 61))
 (.inr (0, 61)))
 (cond (Nat.ble k 131)
 (.inr (2, 61))
 (cond (Nat.ble k 132)
 (.inr (0, 10))
 (.inr (0, 4))))))
 (cond (Nat.ble k 137)
 (cond (Nat.ble k 135)
 (cond (Nat.ble k 134)
 (.inr (0, 60))
 (.inr (0, 60)))
 (cond (Nat.ble k 136)
 (.inr (0, 60))
 (.inr (0, 60))))
 (cond (Nat.ble k 139)
 (cond (Nat.ble k 138)
 (.inr (0, 60))
 (.inr (0, 60)))
 (cond (Nat.ble k 140)
 (.inr (2, 4))
 (cond (Nat.ble k 142)
 (.inr (0, 10))
 (.inr (99, 0))))))))))
def kd (L k : Nat) : Nat ⊕ (Nat × Nat) := cond (Nat.beq k kSCR) (.inr (0, L)) (kd0 k)
abbrev f_Bars_steps : Nat := 0
abbrev f_Bars_values : Nat := 1
abbrev f_Bars_stepCount : Nat := 2
abbrev f_Bars_ends : Nat := 3
abbrev f_Bars_barCount : Nat := 4
abbrev f_Bars_vars : Nat := 5
abbrev f_Bars_stack : Nat := 6
abbrev f_Bars_height : Nat := 7
abbrev f_Bars_broken : Nat := 8
abbrev f_Best_solver : Nat := 0
abbrev f_Best_told : Nat := 1
abbrev f_Best_low : Nat := 2
abbrev f_Best_high : Nat := 3
abbrev f_Best_trial : Nat := 4
abbrev f_Best_toldCount : Nat := 5
abbrev f_Best_found : Nat := 6
abbrev f_Best_leastDrag : Nat := 7
abbrev f_Best_twists : Nat := 8
abbrev f_Flow_g : Nat := 0
abbrev f_Flow_down : Nat := 1
abbrev f_Flow_bend : Nat := 2
abbrev f_Flow_angle : Nat := 3
abbrev f_Flow_strips : Nat := 4
abbrev f_Flow_v : Nat := 5
abbrev f_Flow_solved : Nat := 6
abbrev f_Law_x : Nat := 0
abbrev f_Law_y : Nat := 1
abbrev f_Law_points : Nat := 2
abbrev f_Reader_tokens : Nat := 0
abbrev f_Reader_at : Nat := 1
abbrev f_Reader_kind : Nat := 2
abbrev f_Reader_taken : Nat := 3
abbrev f_Reader_fault : Nat := 4
abbrev f_Reader_faultToken : Nat := 5
abbrev f_Reader_late : Nat := 6
abbrev f_Reader_lateToken : Nat := 7
abbrev f_Reader_pending : Nat := 8
abbrev f_Reader_pendingCount : Nat := 9
abbrev f_Runs_solver : Nat := 0
abbrev f_Runs_voidOf : Nat := 1
abbrev f_Runs_wings : Nat := 2
abbrev f_Runs_speeds : Nat := 3
abbrev f_Runs_slants : Nat := 4
abbrev f_Runs_lifts : Nat := 5
abbrev f_Runs_walls : Nat := 6
abbrev f_Runs_unturned : Nat := 7
abbrev f_Runs_rows : Nat := 8
abbrev f_Solver_still : Nat := 0
abbrev f_Solver_flow : Nat := 1
abbrev f_Solver_twists : Nat := 2
abbrev f_Solver_lean : Nat := 3
abbrev f_Solver_wash : Nat := 4
abbrev f_Solver_edges : Nat := 5
abbrev f_Solver_text : Nat := 6
abbrev f_Solver_wing : Nat := 7
abbrev f_Solver_height : Nat := 8
abbrev f_Text_laws : Nat := 0
abbrev f_Text_lawCount : Nat := 1
abbrev f_Text_hingeMost : Nat := 2
abbrev f_Text_hingeAngles : Nat := 3
abbrev f_Text_hingeCount : Nat := 4
abbrev f_Text_wings : Nat := 5
abbrev f_Text_wingCount : Nat := 6
abbrev f_Text_bars : Nat := 7
abbrev f_Text_names : Nat := 8
abbrev f_Text_nameSorts : Nat := 9
abbrev f_Text_nameNumbers : Nat := 10
abbrev f_Text_nameCount : Nat := 11
abbrev f_Tokens_words : Nat := 0
abbrev f_Tokens_kinds : Nat := 1
abbrev f_Tokens_froms : Nat := 2
abbrev f_Tokens_values : Nat := 3
abbrev f_Tokens_tokenCount : Nat := 4
abbrev f_Tokens_tape : Nat := 5
abbrev f_Tokens_length : Nat := 6
abbrev f_Tokens_at : Nat := 7
abbrev f_Trials_solver : Nat := 0
abbrev f_Trials_kept : Nat := 1
abbrev f_Trials_curveLifts : Nat := 2
abbrev f_Trials_restLifts : Nat := 3
abbrev f_Trials_trimSlants : Nat := 4
abbrev f_Trials_trimRising : Nat := 5
abbrev f_Wing_strips : Nat := 0
abbrev f_Wing_widths : Nat := 1
abbrev f_Wing_laws : Nat := 2
abbrev f_Wing_drags : Nat := 3
abbrev f_Wing_twists : Nat := 4
abbrev f_Wing_hinges : Nat := 5
abbrev f_Wing_deep : Nat := 6
abbrev f_Wing_stiff : Nat := 7
abbrev f_Wing_sweep : Nat := 8
abbrev f_Wing_mass : Nat := 9
abbrev f_Wing_massTold : Nat := 10
abbrev f_Wing_last : Nat := 11
abbrev f_WH_tape : Nat := 0
abbrev f_WH_bytes : Nat := 1
abbrev f_WH_faultPlace : Nat := 2
abbrev f_WH_texts : Nat := 3
abbrev f_WH_textCount : Nat := 4
abbrev f_WH_hand : Nat := 5
abbrev f_WH_gusts : Nat := 6
abbrev f_WH_reader : Nat := 7
abbrev f_WH_solver : Nat := 8
abbrev f_WH_trials : Nat := 9
abbrev f_WH_bestTwist : Nat := 10
abbrev f_WH_runs : Nat := 11
abbrev f_WH_outs : Nat := 12
abbrev f_MD_thrown : Nat := 0
abbrev f_MD_tape : Nat := 1
abbrev f_MD_taped : Nat := 2
abbrev f_MD_text : Nat := 3
abbrev f_MD_size : Nat := 4
abbrev f_MD_tKind : Nat := 5
abbrev f_MD_tPlace : Nat := 6
abbrev f_MD_tValue : Nat := 7
abbrev f_MD_tName : Nat := 8
abbrev f_MD_keys : Nat := 9
abbrev f_MD_tokens : Nat := 10
abbrev f_MD_t : Nat := 11
abbrev f_MD_open : Nat := 12
abbrev f_MD_fault : Nat := 13
abbrev f_MD_faultPlace : Nat := 14
abbrev f_MD_worst : Nat := 15
abbrev f_MD_worstPlace : Nat := 16
abbrev f_MD_place : Nat := 17
abbrev f_MD_texts : Nat := 18
abbrev f_MD_hand : Nat := 19
abbrev f_MD_page : Nat := 20
abbrev f_MD_laws : Nat := 21
abbrev f_MD_lawName : Nat := 22
abbrev f_MD_isDrag : Nat := 23
abbrev f_MD_points : Nat := 24
abbrev f_MD_pointX : Nat := 25
abbrev f_MD_pointY : Nat := 26
abbrev f_MD_hinges : Nat := 27
abbrev f_MD_hingeName : Nat := 28
abbrev f_MD_hingeMost : Nat := 29
abbrev f_MD_hingeAngle : Nat := 30
abbrev f_MD_wings : Nat := 31
abbrev f_MD_wingName : Nat := 32
abbrev f_MD_strips : Nat := 33
abbrev f_MD_deep : Nat := 34
abbrev f_MD_stiff : Nat := 35
abbrev f_MD_sweep : Nat := 36
abbrev f_MD_hasMass : Nat := 37
abbrev f_MD_mass : Nat := 38
abbrev f_MD_width : Nat := 39
abbrev f_MD_lawOf : Nat := 40
abbrev f_MD_dragOf : Nat := 41
abbrev f_MD_twistOf : Nat := 42
abbrev f_MD_hingeOf : Nat := 43
abbrev f_MD_bars : Nat := 44
abbrev f_MD_barName : Nat := 45
abbrev f_MD_litFirst : Nat := 46
abbrev f_MD_litLast : Nat := 47
abbrev f_MD_lits : Nat := 48
abbrev f_MD_litSort : Nat := 49
abbrev f_MD_litNot : Nat := 50
abbrev f_MD_litOr : Nat := 51
abbrev f_MD_litLeft : Nat := 52
abbrev f_MD_litRight : Nat := 53
abbrev f_MD_litEnd : Nat := 54
abbrev f_MD_codes : Nat := 55
abbrev f_MD_code : Nat := 56
abbrev f_MD_codeInt : Nat := 57
abbrev f_MD_at : Nat := 58
abbrev f_MD_waits : Nat := 59
abbrev f_MD_waiting : Nat := 60
abbrev f_MD_variables : Nat := 61
abbrev f_MD_pile : Nat := 62
abbrev f_MD_isBroken : Nat := 63
abbrev f_MD_gusts : Nat := 64
abbrev f_MD_g : Nat := 65
abbrev f_MD_newG : Nat := 66
abbrev f_MD_down : Nat := 67
abbrev f_MD_bend : Nat := 68
abbrev f_MD_angle : Nat := 69
abbrev f_MD_twistNow : Nat := 70
abbrev f_MD_wing : Nat := 71
abbrev f_MD_n : Nat := 72
abbrev f_MD_speed : Nat := 73
abbrev f_MD_slant : Nat := 74
abbrev f_MD_height : Nat := 75
abbrev f_MD_leader : Nat := 76
abbrev f_MD_offset : Nat := 77
abbrev f_MD_hasHinges : Nat := 78
abbrev f_MD_hasGusts : Nat := 79
abbrev f_MD_isSolved : Nat := 80
abbrev f_MD_solvedSpeed : Nat := 81
abbrev f_MD_solvedG : Nat := 82
abbrev f_MD_solvedDown : Nat := 83
abbrev f_MD_solvedBend : Nat := 84
abbrev f_MD_solvedAngle : Nat := 85
abbrev f_MD_barAt : Nat := 86
abbrev f_MD_curveLift : Nat := 87
abbrev f_MD_isOnCurve : Nat := 88
abbrev f_MD_curveG : Nat := 89
abbrev f_MD_restLift : Nat := 90
abbrev f_MD_isResting : Nat := 91
abbrev f_MD_trimMany : Nat := 92
abbrev f_MD_trimAt : Nat := 93
abbrev f_MD_isRising : Nat := 94
abbrev f_MD_bestTwist : Nat := 95
abbrev f_MD_member : Nat := 96
abbrev f_MD_runs : Nat := 97
abbrev f_MD_of : Nat := 98
abbrev f_MD_runWing : Nat := 99
abbrev f_MD_runSpeed : Nat := 100
abbrev f_MD_runSlant : Nat := 101
abbrev f_MD_runLift : Nat := 102
abbrev f_MD_runWall : Nat := 103
abbrev f_MD_isIn : Nat := 104
def sr_0 (i k : Nat) : Option Rf :=
 (cond (Nat.ble k 1)
 (cond (Nat.ble k 0)
 (cond (Nat.beq k 0) (some (some (13, i))) none)
 (cond (Nat.beq k 1) (some (some (14, i))) none))
 (cond (Nat.ble k 3)
 (cond (Nat.beq k 3) (some (some (15, i))) none)
 (cond (Nat.ble k 5)
 (cond (Nat.beq k 5) (some (some (16, i))) none)
 (cond (Nat.beq k 6) (some (some (17, i))) none))))
def sr_1 (i k : Nat) : Option Rf :=
 (cond (Nat.ble k 2)
 (cond (Nat.ble k 0)
 (cond (Nat.beq k 0) (some (some (6, 0))) none)
 (cond (Nat.ble k 1)
 (cond (Nat.beq k 1) (some (some (18, i))) none)
 (cond (Nat.beq k 2) (some (some (19, i))) none)))
 (cond (Nat.ble k 3)
 (cond (Nat.beq k 3) (some (some (20, i))) none)
 (cond (Nat.ble k 4)
 (cond (Nat.beq k 4) (some (some (21, i))) none)
 (cond (Nat.beq k 8) (some (some (22, i))) none))))
def sr_2 (i k : Nat) : Option Rf :=
 (cond (Nat.ble k 1)
 (cond (Nat.ble k 0)
 (cond (Nat.beq k 0) (some (some (23, i))) none)
 (cond (Nat.beq k 1) (some (some (24, i))) none))
 (cond (Nat.ble k 2)
 (cond (Nat.beq k 2) (some (some (25, i))) none)
 (cond (Nat.beq k 3) (some (some (26, i))) none)))
def sr_3 (i k : Nat) : Option Rf :=
 (cond (Nat.ble k 0)
 (cond (Nat.beq k 0) (some (some (27, i))) none)
 (cond (Nat.beq k 1) (some (some (28, i))) none))
def sr_4 (i k : Nat) : Option Rf :=
 (cond (Nat.ble k 0)
 (cond (Nat.beq k 0) (some (some (8, 0))) none)
 (cond (Nat.beq k 8) (some (some (29, i))) none))
def sr_5 (i k : Nat) : Option Rf :=
 (cond (Nat.ble k 3)
 (cond (Nat.ble k 1)
 (cond (Nat.ble k 0)
 (cond (Nat.beq k 0) (some (some (6, 0))) none)
 (cond (Nat.beq k 1) (some (some (30, i))) none))
 (cond (Nat.ble k 2)
 (cond (Nat.beq k 2) (some (some (31, i))) none)
 (cond (Nat.beq k 3) (some (some (32, i))) none)))
 (cond (Nat.ble k 5)
 (cond (Nat.ble k 4)
 (cond (Nat.beq k 4) (some (some (33, i))) none)
 (cond (Nat.beq k 5) (some (some (34, i))) none))
 (cond (Nat.ble k 6)
 (cond (Nat.beq k 6) (some (some (35, i))) none)
 (cond (Nat.beq k 7) (some (some (36, i))) none))))
def sr_6 (i k : Nat) : Option Rf :=
 (cond (Nat.ble k 2)
 (cond (Nat.ble k 0)
 (cond (Nat.beq k 0) (some (some (37, i))) none)
 (cond (Nat.ble k 1)
 (cond (Nat.beq k 1) (some (some (2, 0))) none)
 (cond (Nat.beq k 2) (some (some (38, i))) none)))
 (cond (Nat.ble k 3)
 (cond (Nat.beq k 3) (some (some (39, i))) none)
 (cond (Nat.ble k 4)
 (cond (Nat.beq k 4) (some (some (40, i))) none)
 (cond (Nat.beq k 5) (some (some (41, i))) none))))
def sr_7 (i k : Nat) : Option Rf :=
 (cond (Nat.ble k 5)
 (cond (Nat.ble k 2)
 (cond (Nat.ble k 0)
 (cond (Nat.beq k 0) (some (some (42, i))) none)
 (cond (Nat.beq k 2) (some (some (43, i))) none))
 (cond (Nat.ble k 3)
 (cond (Nat.beq k 3) (some (some (44, i))) none)
 (cond (Nat.beq k 5) (some (some (45, i))) none)))
 (cond (Nat.ble k 8)
 (cond (Nat.ble k 7)
 (cond (Nat.beq k 7) (some (some (0, i))) none)
 (cond (Nat.beq k 8) (some (some (46, i))) none))
 (cond (Nat.ble k 9)
 (cond (Nat.beq k 9) (some (some (47, i))) none)
 (cond (Nat.beq k 10) (some (some (48, i))) none))))
def sr_8 (i k : Nat) : Option Rf :=
 (cond (Nat.ble k 1)
 (cond (Nat.ble k 0)
 (cond (Nat.beq k 0) (some (some (49, i))) none)
 (cond (Nat.beq k 1) (some (some (50, i))) none))
 (cond (Nat.ble k 2)
 (cond (Nat.beq k 2) (some (some (51, i))) none)
 (cond (Nat.beq k 3) (some (some (52, i))) none)))
def sr_9 (i k : Nat) : Option Rf :=
 (cond (Nat.ble k 2)
 (cond (Nat.ble k 0)
 (cond (Nat.beq k 0) (some (some (6, 0))) none)
 (cond (Nat.ble k 1)
 (cond (Nat.beq k 1) (some (some (2, 1))) none)
 (cond (Nat.beq k 2) (some (some (53, i))) none)))
 (cond (Nat.ble k 3)
 (cond (Nat.beq k 3) (some (some (54, i))) none)
 (cond (Nat.ble k 4)
 (cond (Nat.beq k 4) (some (some (55, i))) none)
 (cond (Nat.beq k 5) (some (some (56, i))) none))))
def sr_10 (i k : Nat) : Option Rf :=
 (cond (Nat.ble k 3)
 (cond (Nat.ble k 1)
 (cond (Nat.beq k 1) (some (some (57, i))) none)
 (cond (Nat.ble k 2)
 (cond (Nat.beq k 2) (some (some (58, i))) none)
 (cond (Nat.beq k 3) (some (some (59, i))) none)))
 (cond (Nat.ble k 5)
 (cond (Nat.ble k 4)
 (cond (Nat.beq k 4) (some (some (60, i))) none)
 (cond (Nat.beq k 5) (some (some (61, i))) none))
 (cond (Nat.ble k 9)
 (cond (Nat.beq k 9) (some (some (62, i))) none)
 (cond (Nat.beq k 11) (some (some (2, (i + 2)))) none))))
def sr_11 (i k : Nat) : Option Rf :=
 (cond (Nat.ble k 7)
 (cond (Nat.ble k 3)
 (cond (Nat.ble k 0)
 (cond (Nat.beq k 0) (some (some (63, i))) none)
 (cond (Nat.beq k 3) (some (some (64, i))) none))
 (cond (Nat.ble k 6)
 (cond (Nat.beq k 6) (some (some (65, i))) none)
 (cond (Nat.beq k 7) (some (some (4, 0))) none)))
 (cond (Nat.ble k 9)
 (cond (Nat.ble k 8)
 (cond (Nat.beq k 8) (some (some (6, 0))) none)
 (cond (Nat.beq k 9) (some (some (9, 0))) none))
 (cond (Nat.ble k 10)
 (cond (Nat.beq k 10) (some (some (1, 0))) none)
 (cond (Nat.ble k 11)
 (cond (Nat.beq k 11) (some (some (5, 0))) none)
 (cond (Nat.beq k 12) (some (some (66, i))) none)))))
def sr_12 (i k : Nat) : Option Rf :=
 (cond (Nat.ble k 51)
 (cond (Nat.ble k 31)
 (cond (Nat.ble k 22)
 (cond (Nat.ble k 6)
 (cond (Nat.ble k 3)
 (cond (Nat.ble k 1)
 (cond (Nat.beq k 1) (some (some (67, i))) none)
 (cond (Nat.beq k 3) (some (some (68, i))) none))
 (cond (Nat.ble k 5)
 (cond (Nat.beq k 5) (some (some (69, i))) none)
 (cond (Nat.beq k 6) (some (some (70, i))) none)))
 (cond (Nat.ble k 8)
 (cond (Nat.ble k 7)
 (cond (Nat.beq k 7) (some (some (71, i))) none)
 (cond (Nat.beq k 8) (some (some (72, i))) none))
 (cond (Nat.ble k 9)
 (cond (Nat.beq k 9) (some (some (73, i))) none)
 (cond (Nat.ble k 21)
 (cond (Nat.beq k 21) (some (some (74, i))) none)
 (cond (Nat.beq k 22) (some (some (75, i))) none)))))
 (cond (Nat.ble k 26)
 (cond (Nat.ble k 24)
 (cond (Nat.ble k 23)
 (cond (Nat.beq k 23) (some (some (76, i))) none)
 (cond (Nat.beq k 24) (some (some (77, i))) none))
 (cond (Nat.ble k 25)
 (cond (Nat.beq k 25) (some (some (78, i))) none)
 (cond (Nat.beq k 26) (some (some (79, i))) none)))
 (cond (Nat.ble k 28)
 (cond (Nat.ble k 27)
 (cond (Nat.beq k 27) (some (some (80, i))) none)
 (cond (Nat.beq k 28) (some (some (81, i))) none))
 (cond (Nat.ble k 29)
 (cond (Nat.beq k 29) (some (some (82, i))) none)
 (cond (Nat.ble k 30)
 (cond (Nat.beq k 30) (some (some (83, i))) none)
 (cond (Nat.beq k 31) (some (some (84, i))) none))))))
 (cond (Nat.ble k 40)
 (cond (Nat.ble k 35)
 (cond (Nat.ble k 33)
 (cond (Nat.ble k 32)
 (cond (Nat.beq k 32) (some (some (85, i))) none)
 (cond (Nat.beq k 33) (some (some (86, i))) none))
 (cond (Nat.ble k 34)
 (cond (Nat.beq k 34) (some (some (87, i))) none)
 (cond (Nat.beq k 35) (some (some (88, i))) none)))
 (cond (Nat.ble k 37)
 (cond (Nat.ble k 36)
 (cond (Nat.beq k 36) (some (some (89, i))) none)
 (cond (Nat.beq k 37) (some (some (90, i))) none))
 (cond (Nat.ble k 38)
 (cond (Nat.beq k 38) (some (some (91, i))) none)
 (cond (Nat.ble k 39)
 (cond (Nat.beq k 39) (some (some (92, i))) none)
 (cond (Nat.beq k 40) (some (some (93, i))) none)))))
 (cond (Nat.ble k 45)
 (cond (Nat.ble k 42)
 (cond (Nat.ble k 41)
 (cond (Nat.beq k 41) (some (some (94, i))) none)
 (cond (Nat.beq k 42) (some (some (95, i))) none))
 (cond (Nat.ble k 43)
 (cond (Nat.beq k 43) (some (some (96, i))) none)
 (cond (Nat.ble k 44)
 (cond (Nat.beq k 44) (some (some (97, i))) none)
 (cond (Nat.beq k 45) (some (some (98, i))) none))))
 (cond (Nat.ble k 47)
 (cond (Nat.ble k 46)
 (cond (Nat.beq k 46) (some (some (99, i))) none)
 (cond (Nat.beq k 47) (some (some (100, i))) none))
 (cond (Nat.ble k 49)
 (cond (Nat.beq k 49) (some (some (101, i))) none)
 (cond (Nat.ble k 50)
 (cond (Nat.beq k 50) (some (some (102, i))) none)
 (cond (Nat.beq k 51) (some (some (103, i))) none)))))))
 (cond (Nat.ble k 82)
 (cond (Nat.ble k 64)
 (cond (Nat.ble k 56)
 (cond (Nat.ble k 53)
 (cond (Nat.ble k 52)
 (cond (Nat.beq k 52) (some (some (104, i))) none)
 (cond (Nat.beq k 53) (some (some (105, i))) none))
 (cond (Nat.ble k 54)
 (cond (Nat.beq k 54) (some (some (106, i))) none)
 (cond (Nat.beq k 56) (some (some (107, i))) none)))
 (cond (Nat.ble k 59)
 (cond (Nat.ble k 57)
 (cond (Nat.beq k 57) (some (some (108, i))) none)
 (cond (Nat.beq k 59) (some (some (109, i))) none))
 (cond (Nat.ble k 61)
 (cond (Nat.beq k 61) (some (some (110, i))) none)
 (cond (Nat.ble k 62)
 (cond (Nat.beq k 62) (some (some (111, i))) none)
 (cond (Nat.beq k 64) (some (some (112, i))) none)))))
 (cond (Nat.ble k 68)
 (cond (Nat.ble k 66)
 (cond (Nat.ble k 65)
 (cond (Nat.beq k 65) (some (some (113, i))) none)
 (cond (Nat.beq k 66) (some (some (114, i))) none))
 (cond (Nat.ble k 67)
 (cond (Nat.beq k 67) (some (some (115, i))) none)
 (cond (Nat.beq k 68) (some (some (116, i))) none)))
 (cond (Nat.ble k 70)
 (cond (Nat.ble k 69)
 (cond (Nat.beq k 69) (some (some (117, i))) none)
 (cond (Nat.beq k 70) (some (some (118, i))) none))
 (cond (Nat.ble k 80)
 (cond (Nat.beq k 80) (some (some (119, i))) none)
 (cond (Nat.ble k 81)
 (cond (Nat.beq k 81) (some (some (120, i))) none)
 (cond (Nat.beq k 82) (some (some (121, i))) none))))))
 (cond (Nat.ble k 93)
 (cond (Nat.ble k 87)
 (cond (Nat.ble k 84)
 (cond (Nat.ble k 83)
 (cond (Nat.beq k 83) (some (some (122, i))) none)
 (cond (Nat.beq k 84) (some (some (123, i))) none))
 (cond (Nat.ble k 85)
 (cond (Nat.beq k 85) (some (some (124, i))) none)
 (cond (Nat.beq k 87) (some (some (125, i))) none)))
 (cond (Nat.ble k 89)
 (cond (Nat.ble k 88)
 (cond (Nat.beq k 88) (some (some (126, i))) none)
 (cond (Nat.beq k 89) (some (some (127, i))) none))
 (cond (Nat.ble k 90)
 (cond (Nat.beq k 90) (some (some (128, i))) none)
 (cond (Nat.ble k 91)
 (cond (Nat.beq k 91) (some (some (129, i))) none)
 (cond (Nat.beq k 93) (some (some (130, i))) none)))))
 (cond (Nat.ble k 99)
 (cond (Nat.ble k 95)
 (cond (Nat.ble k 94)
 (cond (Nat.beq k 94) (some (some (131, i))) none)
 (cond (Nat.beq k 95) (some (some (132, i))) none))
 (cond (Nat.ble k 96)
 (cond (Nat.beq k 96) (some (some (133, i))) none)
 (cond (Nat.ble k 98)
 (cond (Nat.beq k 98) (some (some (134, i))) none)
 (cond (Nat.beq k 99) (some (some (135, i))) none))))
 (cond (Nat.ble k 101)
 (cond (Nat.ble k 100)
 (cond (Nat.beq k 100) (some (some (136, i))) none)
 (cond (Nat.beq k 101) (some (some (137, i))) none))
 (cond (Nat.ble k 102)
 (cond (Nat.beq k 102) (some (some (138, i))) none)
 (cond (Nat.ble k 103)
 (cond (Nat.beq k 103) (some (some (139, i))) none)
 (cond (Nat.beq k 104) (some (some (140, i))) none))))))))
/-- the references that never change once all is made -/
def srU (k i s : Nat) : Option Rf :=
 (cond (Nat.ble k 7)
 (cond (Nat.ble k 3)
 (cond (Nat.ble k 1)
 (cond (Nat.ble k 0)
 (cond (Nat.beq k 0) (sr_0 i s) none)
 (cond (Nat.beq k 1) (sr_1 i s) none))
 (cond (Nat.ble k 2)
 (cond (Nat.beq k 2) (sr_2 i s) none)
 (cond (Nat.beq k 3) (sr_3 i s) none)))
 (cond (Nat.ble k 5)
 (cond (Nat.ble k 4)
 (cond (Nat.beq k 4) (sr_4 i s) none)
 (cond (Nat.beq k 5) (sr_5 i s) none))
 (cond (Nat.ble k 6)
 (cond (Nat.beq k 6) (sr_6 i s) none)
 (cond (Nat.beq k 7) (sr_7 i s) none))))
 (cond (Nat.ble k 11)
 (cond (Nat.ble k 9)
 (cond (Nat.ble k 8)
 (cond (Nat.beq k 8) (sr_8 i s) none)
 (cond (Nat.beq k 9) (sr_9 i s) none))
 (cond (Nat.ble k 10)
 (cond (Nat.beq k 10) (sr_10 i s) none)
 (cond (Nat.beq k 11) (sr_11 i s) none)))
 (cond (Nat.ble k 42)
 (cond (Nat.ble k 12)
 (cond (Nat.beq k 12) (sr_12 i s) none)
 (cond (Nat.beq k 42) (some (some (3, 8 * i + s))) none))
 (cond (Nat.ble k 45)
 (cond (Nat.beq k 45) (some (some (10, 4 * i + s))) none)
 (cond (Nat.beq k 64) (some (some (7, s))) none)))))
/-- within the rows of references -/
def inB (k s : Nat) : Bool := cond (Nat.beq k 42) (Nat.ble s 7) (cond (Nat.beq k 45) (Nat.ble s 3) (cond (Nat.beq k 64) (Nat.ble s 3) true))
def srT (k i s : Nat) : Option Rf := cond (inB k s) (srU k i s) none
def sr (md : Bool) (k i s : Nat) : Option Rf := cond md (srT k i s) none
abbrev m_Bars_init : Nat := 0
abbrev m_Bars_empty : Nat := 1
abbrev m_Bars_addStep : Nat := 2
abbrev m_Bars_closeBar : Nat := 3
abbrev m_Bars_holds : Nat := 4
abbrev m_Bars_push : Nat := 5
abbrev m_Bars_pop : Nat := 6
abbrev m_Bars_compares : Nat := 7
abbrev m_Bars_reckon : Nat := 8
abbrev m_Best_init : Nat := 9
abbrev m_Best_search : Nat := 10
abbrev m_Best_tellStrips : Nat := 11
abbrev m_Best_judge : Nat := 12
abbrev m_Best_stepOn : Nat := 13
abbrev m_Best_twistOf : Nat := 14
abbrev m_Flow_init : Nat := 15
abbrev m_Flow_rest : Nat := 16
abbrev m_Flow_startFrom : Nat := 17
abbrev m_Flow_keep : Nat := 18
abbrev m_Flow_edgeAt : Nat := 19
abbrev m_Flow_liftNow : Nat := 20
abbrev m_Flow_turnNow : Nat := 21
abbrev m_Law_init : Nat := 22
abbrev m_Law_isAboveLast : Nat := 23
abbrev m_Law_addPoint : Nat := 24
abbrev m_Law_valueAt : Nat := 25
abbrev m_Reader_init : Nat := 26
abbrev m_Reader_parse : Nat := 27
abbrev m_Reader_placeOfFault : Nat := 28
abbrev m_Reader_stop : Nat := 29
abbrev m_Reader_blame : Nat := 30
abbrev m_Reader_take : Nat := 31
abbrev m_Reader_number : Nat := 32
abbrev m_Reader_signed : Nat := 33
abbrev m_Reader_named : Nat := 34
abbrev m_Reader_known : Nat := 35
abbrev m_Reader_tellLaw : Nat := 36
abbrev m_Reader_tellPoint : Nat := 37
abbrev m_Reader_tellHinge : Nat := 38
abbrev m_Reader_tellWing : Nat := 39
abbrev m_Reader_tellStrip : Nat := 40
abbrev m_Reader_isMake : Nat := 41
abbrev m_Reader_tellMake : Nat := 42
abbrev m_Reader_tellBar : Nat := 43
abbrev m_Reader_condition : Nat := 44
abbrev m_Reader_expression : Nat := 45
abbrev m_Reader_unit : Nat := 46
abbrev m_Reader_rankOf : Nat := 47
abbrev m_Reader_waitFor : Nat := 48
abbrev m_Reader_release : Nat := 49
abbrev m_Runs_init : Nat := 50
abbrev m_Runs_addRun : Nat := 51
abbrev m_Runs_addVoid : Nat := 52
abbrev m_Runs_isRun : Nat := 53
abbrev m_Runs_putRight : Nat := 54
abbrev m_Runs_isFit : Nat := 55
abbrev m_Runs_isVoid : Nat := 56
abbrev m_Runs_outBy : Nat := 57
abbrev m_Runs_nextPlace : Nat := 58
abbrev m_Runs_spreadAt : Nat := 59
abbrev m_Solver_init : Nat := 60
abbrev m_Solver_setOut : Nat := 61
abbrev m_Solver_turnStrip : Nat := 62
abbrev m_Solver_comeBehind : Nat := 63
abbrev m_Solver_settle : Nat := 64
abbrev m_Solver_goRound : Nat := 65
abbrev m_Solver_tellDown : Nat := 66
abbrev m_Solver_liftByGround : Nat := 67
abbrev m_Solver_tellBend : Nat := 68
abbrev m_Solver_restLift : Nat := 69
abbrev m_Text_init : Nat := 70
abbrev m_Text_clear : Nat := 71
abbrev m_Text_nameIndex : Nat := 72
abbrev m_Text_numberNamed : Nat := 73
abbrev m_Text_addName : Nat := 74
abbrev m_Text_wingNumbered : Nat := 75
abbrev m_Text_lawValue : Nat := 76
abbrev m_Text_dragNow : Nat := 77
abbrev m_Text_firstBarred : Nat := 78
abbrev m_Text_countOf : Nat := 79
abbrev m_Tokens_init : Nat := 80
abbrev m_Tokens_withLetter : Nat := 81
abbrev m_Tokens_isBlank : Nat := 82
abbrev m_Tokens_isLetter : Nat := 83
abbrev m_Tokens_isDigit : Nat := 84
abbrev m_Tokens_isComparison : Nat := 85
abbrev m_Tokens_isVariable : Nat := 86
abbrev m_Tokens_scanAll : Nat := 87
abbrev m_Tokens_kindOf : Nat := 88
abbrev m_Tokens_fromOf : Nat := 89
abbrev m_Tokens_valueOf : Nat := 90
abbrev m_Tokens_byteAt : Nat := 91
abbrev m_Tokens_scanOne : Nat := 92
abbrev m_Tokens_wordFrom : Nat := 93
abbrev m_Tokens_numberFrom : Nat := 94
abbrev m_Tokens_signFrom : Nat := 95
abbrev m_Trials_init : Nat := 96
abbrev m_Trials_drawCurve : Nat := 97
abbrev m_Trials_findTrims : Nat := 98
abbrev m_Trials_foldSpeed : Nat := 99
abbrev m_Trials_isFolded : Nat := 100
abbrev m_Trials_shakesAt : Nat := 101
abbrev m_Trials_isGrowing : Nat := 102
abbrev m_Trials_held : Nat := 103
abbrev m_Wing_init : Nat := 104
abbrev m_Wing_untell : Nat := 105
abbrev m_Wing_addStrip : Nat := 106
abbrev m_WH_init : Nat := 107
abbrev m_WH_feed : Nat := 108
abbrev m_WH_putFour : Nat := 109
abbrev m_WH_back : Nat := 110
abbrev m_WH_read : Nat := 111
abbrev m_WH_place : Nat := 112
abbrev m_WH_use : Nat := 113
abbrev m_WH_textOf : Nat := 114
abbrev m_WH_wingOf : Nat := 115
abbrev m_WH_isSpeed : Nat := 116
abbrev m_WH_isSlant : Nat := 117
abbrev m_WH_over : Nat := 118
abbrev m_WH_law : Nat := 119
abbrev m_WH_hinge : Nat := 120
abbrev m_WH_gust : Nat := 121
abbrev m_WH_solve : Nat := 122
abbrev m_WH_ground : Nat := 123
abbrev m_WH_follow : Nat := 124
abbrev m_WH_settleAndKeep : Nat := 125
abbrev m_WH_solvedWing : Nat := 126
abbrev m_WH_strip : Nat := 127
abbrev m_WH_edge : Nat := 128
abbrev m_WH_force : Nat := 129
abbrev m_WH_barred : Nat := 130
abbrev m_WH_where : Nat := 131
abbrev m_WH_curve : Nat := 132
abbrev m_WH_lift : Nat := 133
abbrev m_WH_trims : Nat := 134
abbrev m_WH_trim : Nat := 135
abbrev m_WH_stays : Nat := 136
abbrev m_WH_fold : Nat := 137
abbrev m_WH_shakes : Nat := 138
abbrev m_WH_shake : Nat := 139
abbrev m_WH_best : Nat := 140
abbrev m_WH_twist : Nat := 141
abbrev m_WH_run : Nat := 142
abbrev m_WH_annul : Nat := 143
abbrev m_WH_right : Nat := 144
abbrev m_WH_fits : Nat := 145
abbrev m_WH_out : Nat := 146
abbrev m_WH_next : Nat := 147
abbrev m_WH_count : Nat := 148
abbrev m_MD_init : Nat := 149
abbrev m_MD_feed : Nat := 150
abbrev m_MD_put : Nat := 151
abbrev m_MD_back : Nat := 152
abbrev m_MD_at : Nat := 153
abbrev m_MD_isDigit : Nat := 154
abbrev m_MD_isLetter : Nat := 155
abbrev m_MD_more : Nat := 156
abbrev m_MD_word : Nat := 157
abbrev m_MD_token : Nat := 158
abbrev m_MD_cut : Nat := 159
abbrev m_MD_sign : Nat := 160
abbrev m_MD_is : Nat := 161
abbrev m_MD_fail : Nat := 162
abbrev m_MD_wrong : Nat := 163
abbrev m_MD_goesOn : Nat := 164
abbrev m_MD_must : Nat := 165
abbrev m_MD_read : Nat := 166
abbrev m_MD_place : Nat := 167
abbrev m_MD_tell : Nat := 168
abbrev m_MD_named : Nat := 169
abbrev m_MD_number : Nat := 170
abbrev m_MD_within : Nat := 171
abbrev m_MD_tellLaw : Nat := 172
abbrev m_MD_tellHinge : Nat := 173
abbrev m_MD_lawNamed : Nat := 174
abbrev m_MD_hingeNamed : Nat := 175
abbrev m_MD_tellWing : Nat := 176
abbrev m_MD_tellMore : Nat := 177
abbrev m_MD_tellBar : Nat := 178
abbrev m_MD_literal : Nat := 179
abbrev m_MD_emit : Nat := 180
abbrev m_MD_comesOut : Nat := 181
abbrev m_MD_expression : Nat := 182
abbrev m_MD_unit : Nat := 183
abbrev m_MD_termOf : Nat := 184
abbrev m_MD_isTrue : Nat := 185
abbrev m_MD_holds : Nat := 186
abbrev m_MD_valueOf : Nat := 187
abbrev m_MD_edgeOf : Nat := 188
abbrev m_MD_leaderEdge : Nat := 189
abbrev m_MD_downOf : Nat := 190
abbrev m_MD_bendOf : Nat := 191
abbrev m_MD_lawAt : Nat := 192
abbrev m_MD_round : Nat := 193
abbrev m_MD_rests : Nat := 194
abbrev m_MD_stands : Nat := 195
abbrev m_MD_rounds : Nat := 196
abbrev m_MD_keeps : Nat := 197
abbrev m_MD_forceNow : Nat := 198
abbrev m_MD_barNow : Nat := 199
abbrev m_MD_in : Nat := 200
abbrev m_MD_isSpeed : Nat := 201
abbrev m_MD_isSlant : Nat := 202
abbrev m_MD_use : Nat := 203
abbrev m_MD_row : Nat := 204
abbrev m_MD_law : Nat := 205
abbrev m_MD_hinge : Nat := 206
abbrev m_MD_gust : Nat := 207
abbrev m_MD_solve : Nat := 208
abbrev m_MD_ground : Nat := 209
abbrev m_MD_follow : Nat := 210
abbrev m_MD_again : Nat := 211
abbrev m_MD_strip : Nat := 212
abbrev m_MD_edge : Nat := 213
abbrev m_MD_force : Nat := 214
abbrev m_MD_barred : Nat := 215
abbrev m_MD_where : Nat := 216
abbrev m_MD_curve : Nat := 217
abbrev m_MD_lift : Nat := 218
abbrev m_MD_trimsOf : Nat := 219
abbrev m_MD_trims : Nat := 220
abbrev m_MD_trim : Nat := 221
abbrev m_MD_stays : Nat := 222
abbrev m_MD_fold : Nat := 223
abbrev m_MD_holdsTo : Nat := 224
abbrev m_MD_shakesAt : Nat := 225
abbrev m_MD_shakes : Nat := 226
abbrev m_MD_shake : Nat := 227
abbrev m_MD_bits : Nat := 228
abbrev m_MD_best : Nat := 229
abbrev m_MD_twist : Nat := 230
abbrev m_MD_run : Nat := 231
abbrev m_MD_isRun : Nat := 232
abbrev m_MD_annul : Nat := 233
abbrev m_MD_rightOf : Nat := 234
abbrev m_MD_right : Nat := 235
abbrev m_MD_flies : Nat := 236
abbrev m_MD_isFit : Nat := 237
abbrev m_MD_fits : Nat := 238
abbrev m_MD_isVoid : Nat := 239
abbrev m_MD_outBy : Nat := 240
abbrev m_MD_out : Nat := 241
abbrev m_MD_next : Nat := 242
abbrev m_MD_count : Nat := 243
abbrev m_Integer_bitCount_0f7a4 : Nat := 244
abbrev m_Math_abs_0f7a4 : Nat := 245
abbrev m_Math_abs_067f4 : Nat := 246
abbrev m_Math_max_7cf53 : Nat := 247
abbrev m_Math_max_f86c9 : Nat := 248
abbrev m_Math_min_7cf53 : Nat := 249
abbrev m_Math_min_f86c9 : Nat := 250
abbrev m_String_length_8abf5 : Nat := 251
abbrev m_String_charAt_5068e : Nat := 252
abbrev m_String_coder_7d493 : Nat := 253
abbrev m_String_isLatin1_aae02 : Nat := 254
abbrev m_String_checkIndex_df160 : Nat := 255
abbrev m_StringLatin1_charAt_3b067 : Nat := 256
abbrev m_StringUTF16_getChar_3b067 : Nat := 257
abbrev m_StringUTF16_length_9d52b : Nat := 258
abbrev m_StringUTF16_charAt_3b067 : Nat := 259
abbrev m_StringUTF16_checkIndex_2214a : Nat := 260
abbrev m_Arrays_fill_d0a16 : Nat := 261
abbrev m_Arrays_fill_53178 : Nat := 262
abbrev m_Preconditions_checkIndex_8e157 : Nat := 263
abbrev m_LAW_law : Nat := 264
/-- a method: name, bytes, maxLocals, return type, arguments, frames, locals, cells, slots, static, its own class -/
abbrev Mt : Type := MethodName × ByteArray × Nat × Option FieldType × Nat × Nat × Nat × Nat × Nat × Bool × Nat
def mt (k : Nat) : Mt :=
 (cond (Nat.ble k 131)
 (cond (Nat.ble k 65)
 (cond (Nat.ble k 32)
 (cond (Nat.ble k 15)
 (cond (Nat.ble k 7)
 (cond (Nat.ble k 3)
 (cond (Nat.ble k 1)
 (cond (Nat.ble k 0)
 (⟨"WingHouse$Bars", "<init>", "()V"⟩, prog_2_method_1_code, 1, (Option.none : Option Jvm.ClassFile.FieldType), 1, 1, 14, 5, 1048, false, 0)
 (⟨"WingHouse$Bars", "empty", "()V"⟩, prog_2_method_2_code, 1, (Option.none : Option Jvm.ClassFile.FieldType), 1, 0, 0, 0, 0, false, 0))
 (cond (Nat.ble k 2)
 (⟨"WingHouse$Bars", "addStep", "(II)V"⟩, prog_2_method_3_code, 3, (Option.none : Option Jvm.ClassFile.FieldType), 3, 0, 0, 0, 0, false, 0)
 (⟨"WingHouse$Bars", "closeBar", "()V"⟩, prog_2_method_4_code, 1, (Option.none : Option Jvm.ClassFile.FieldType), 1, 0, 0, 0, 0, false, 0)))
 (cond (Nat.ble k 5)
 (cond (Nat.ble k 4)
 (⟨"WingHouse$Bars", "holds", "(I)Z"⟩, prog_2_method_5_code, 7, (Option.some Jvm.ClassFile.FieldType.boolean), 2, 2, 44, 0, 0, false, 0)
 (⟨"WingHouse$Bars", "push", "(I)V"⟩, prog_2_method_6_code, 2, (Option.none : Option Jvm.ClassFile.FieldType), 2, 0, 0, 0, 0, false, 0))
 (cond (Nat.ble k 6)
 (⟨"WingHouse$Bars", "pop", "()I"⟩, prog_2_method_7_code, 1, (Option.some Jvm.ClassFile.FieldType.int), 1, 0, 0, 0, 0, false, 0)
 (⟨"WingHouse$Bars", "compares", "(I)Z"⟩, prog_2_method_8_code, 4, (Option.some Jvm.ClassFile.FieldType.boolean), 2, 1, 20, 0, 0, false, 0))))
 (cond (Nat.ble k 11)
 (cond (Nat.ble k 9)
 (cond (Nat.ble k 8)
 (⟨"WingHouse$Bars", "reckon", "(I)V"⟩, prog_2_method_9_code, 4, (Option.none : Option Jvm.ClassFile.FieldType), 2, 1, 21, 0, 0, false, 0)
 (⟨"WingHouse$Best", "<init>", "(LWingHouse$Solver;)V"⟩, prog_3_method_1_code, 2, (Option.none : Option Jvm.ClassFile.FieldType), 2, 1, 23, 5, 26, false, 1))
 (cond (Nat.ble k 10)
 (⟨"WingHouse$Best", "search", "(LWingHouse$Text;LWingHouse$Wing;IIII)J"⟩, prog_3_method_2_code, 8, (Option.some Jvm.ClassFile.FieldType.long), 7, 6, 144, 0, 0, false, 1)
 (⟨"WingHouse$Best", "tellStrips", "(LWingHouse$Wing;I)V"⟩, prog_3_method_3_code, 4, (Option.none : Option Jvm.ClassFile.FieldType), 3, 1, 23, 0, 0, false, 1)))
 (cond (Nat.ble k 13)
 (cond (Nat.ble k 12)
 (⟨"WingHouse$Best", "judge", "(LWingHouse$Text;LWingHouse$Wing;II)V"⟩, prog_3_method_4_code, 8, (Option.none : Option Jvm.ClassFile.FieldType), 5, 5, 117, 0, 0, false, 1)
 (⟨"WingHouse$Best", "stepOn", "()Z"⟩, prog_3_method_5_code, 2, (Option.some Jvm.ClassFile.FieldType.boolean), 1, 0, 0, 0, 0, false, 1))
 (cond (Nat.ble k 14)
 (⟨"WingHouse$Best", "twistOf", "(I)I"⟩, prog_3_method_6_code, 2, (Option.some Jvm.ClassFile.FieldType.int), 2, 0, 0, 0, 0, false, 1)
 (⟨"WingHouse$Flow", "<init>", "()V"⟩, prog_4_method_1_code, 1, (Option.none : Option Jvm.ClassFile.FieldType), 1, 1, 14, 4, 40, false, 2)))))
 (cond (Nat.ble k 23)
 (cond (Nat.ble k 19)
 (cond (Nat.ble k 17)
 (cond (Nat.ble k 16)
 (⟨"WingHouse$Flow", "rest", "(II)V"⟩, prog_4_method_2_code, 3, (Option.none : Option Jvm.ClassFile.FieldType), 3, 1, 24, 0, 0, false, 2)
 (⟨"WingHouse$Flow", "startFrom", "(LWingHouse$Flow;)V"⟩, prog_4_method_3_code, 2, (Option.none : Option Jvm.ClassFile.FieldType), 2, 1, 40, 0, 0, false, 2))
 (cond (Nat.ble k 18)
 (⟨"WingHouse$Flow", "keep", "(LWingHouse$Flow;)V"⟩, prog_4_method_4_code, 2, (Option.none : Option Jvm.ClassFile.FieldType), 2, 1, 40, 0, 0, false, 2)
 (⟨"WingHouse$Flow", "edgeAt", "(I)J"⟩, prog_4_method_5_code, 6, (Option.some Jvm.ClassFile.FieldType.long), 2, 0, 0, 0, 0, false, 2)))
 (cond (Nat.ble k 21)
 (cond (Nat.ble k 20)
 (⟨"WingHouse$Flow", "liftNow", "()J"⟩, prog_4_method_6_code, 4, (Option.some Jvm.ClassFile.FieldType.long), 1, 0, 0, 0, 0, false, 2)
 (⟨"WingHouse$Flow", "turnNow", "()J"⟩, prog_4_method_7_code, 4, (Option.some Jvm.ClassFile.FieldType.long), 1, 0, 0, 0, 0, false, 2))
 (cond (Nat.ble k 22)
 (⟨"WingHouse$Law", "<init>", "()V"⟩, prog_5_method_1_code, 1, (Option.none : Option Jvm.ClassFile.FieldType), 1, 1, 14, 2, 16, false, 3)
 (⟨"WingHouse$Law", "isAboveLast", "(I)Z"⟩, prog_5_method_2_code, 2, (Option.some Jvm.ClassFile.FieldType.boolean), 2, 0, 0, 0, 0, false, 3))))
 (cond (Nat.ble k 27)
 (cond (Nat.ble k 25)
 (cond (Nat.ble k 24)
 (⟨"WingHouse$Law", "addPoint", "(II)V"⟩, prog_5_method_3_code, 3, (Option.none : Option Jvm.ClassFile.FieldType), 3, 0, 0, 0, 0, false, 3)
 (⟨"WingHouse$Law", "valueAt", "(J)J"⟩, prog_5_method_4_code, 5, (Option.some Jvm.ClassFile.FieldType.long), 2, 1, 23, 0, 0, false, 3))
 (cond (Nat.ble k 26)
 (⟨"WingHouse$Reader", "<init>", "()V"⟩, prog_6_method_1_code, 1, (Option.none : Option Jvm.ClassFile.FieldType), 1, 6, 128, 6, 1565, false, 4)
 (⟨"WingHouse$Reader", "parse", "(LWingHouse$Text;[BI)I"⟩, prog_6_method_2_code, 5, (Option.some Jvm.ClassFile.FieldType.int), 4, 6, 139, 0, 0, false, 4)))
 (cond (Nat.ble k 29)
 (cond (Nat.ble k 28)
 (⟨"WingHouse$Reader", "placeOfFault", "()I"⟩, prog_6_method_3_code, 1, (Option.some Jvm.ClassFile.FieldType.int), 1, 1, 21, 0, 0, false, 4)
 (⟨"WingHouse$Reader", "stop", "(I)V"⟩, prog_6_method_4_code, 2, (Option.none : Option Jvm.ClassFile.FieldType), 2, 0, 0, 0, 0, false, 4))
 (cond (Nat.ble k 30)
 (⟨"WingHouse$Reader", "blame", "(I)V"⟩, prog_6_method_5_code, 2, (Option.none : Option Jvm.ClassFile.FieldType), 2, 0, 0, 0, 0, false, 4)
 (cond (Nat.ble k 31)
 (⟨"WingHouse$Reader", "take", "(I)V"⟩, prog_6_method_6_code, 2, (Option.none : Option Jvm.ClassFile.FieldType), 2, 1, 21, 0, 0, false, 4)
 (⟨"WingHouse$Reader", "number", "(II)I"⟩, prog_6_method_7_code, 4, (Option.some Jvm.ClassFile.FieldType.int), 3, 2, 42, 0, 0, false, 4)))))))
 (cond (Nat.ble k 48)
 (cond (Nat.ble k 40)
 (cond (Nat.ble k 36)
 (cond (Nat.ble k 34)
 (cond (Nat.ble k 33)
 (⟨"WingHouse$Reader", "signed", "(I)I"⟩, prog_6_method_8_code, 4, (Option.some Jvm.ClassFile.FieldType.int), 2, 3, 65, 0, 0, false, 4)
 (⟨"WingHouse$Reader", "named", "(LWingHouse$Text;II)V"⟩, prog_6_method_9_code, 6, (Option.none : Option Jvm.ClassFile.FieldType), 4, 2, 42, 0, 0, false, 4))
 (cond (Nat.ble k 35)
 (⟨"WingHouse$Reader", "known", "(LWingHouse$Text;I)I"⟩, prog_6_method_10_code, 4, (Option.some Jvm.ClassFile.FieldType.int), 3, 2, 47, 0, 0, false, 4)
 (⟨"WingHouse$Reader", "tellLaw", "(LWingHouse$Text;I)V"⟩, prog_6_method_11_code, 6, (Option.none : Option Jvm.ClassFile.FieldType), 3, 5, 111, 0, 0, false, 4)))
 (cond (Nat.ble k 38)
 (cond (Nat.ble k 37)
 (⟨"WingHouse$Reader", "tellPoint", "(LWingHouse$Law;)V"⟩, prog_6_method_12_code, 4, (Option.none : Option Jvm.ClassFile.FieldType), 2, 4, 88, 0, 0, false, 4)
 (⟨"WingHouse$Reader", "tellHinge", "(LWingHouse$Text;)V"⟩, prog_6_method_13_code, 3, (Option.none : Option Jvm.ClassFile.FieldType), 2, 3, 67, 0, 0, false, 4))
 (cond (Nat.ble k 39)
 (⟨"WingHouse$Reader", "tellWing", "(LWingHouse$Text;)V"⟩, prog_6_method_14_code, 5, (Option.none : Option Jvm.ClassFile.FieldType), 2, 5, 115, 0, 0, false, 4)
 (⟨"WingHouse$Reader", "tellStrip", "(LWingHouse$Text;LWingHouse$Wing;)V"⟩, prog_6_method_15_code, 8, (Option.none : Option Jvm.ClassFile.FieldType), 3, 4, 88, 0, 0, false, 4))))
 (cond (Nat.ble k 44)
 (cond (Nat.ble k 42)
 (cond (Nat.ble k 41)
 (⟨"WingHouse$Reader", "isMake", "(I)Z"⟩, prog_6_method_16_code, 1, (Option.some Jvm.ClassFile.FieldType.boolean), 1, 0, 0, 0, 0, true, 4)
 (⟨"WingHouse$Reader", "tellMake", "(LWingHouse$Wing;I)V"⟩, prog_6_method_17_code, 4, (Option.none : Option Jvm.ClassFile.FieldType), 3, 4, 88, 0, 0, false, 4))
 (cond (Nat.ble k 43)
 (⟨"WingHouse$Reader", "tellBar", "(LWingHouse$Text;)V"⟩, prog_6_method_18_code, 3, (Option.none : Option Jvm.ClassFile.FieldType), 2, 5, 111, 0, 0, false, 4)
 (⟨"WingHouse$Reader", "condition", "(LWingHouse$Bars;)V"⟩, prog_6_method_19_code, 5, (Option.none : Option Jvm.ClassFile.FieldType), 2, 4, 87, 0, 0, false, 4)))
 (cond (Nat.ble k 46)
 (cond (Nat.ble k 45)
 (⟨"WingHouse$Reader", "expression", "(LWingHouse$Bars;)V"⟩, prog_6_method_20_code, 5, (Option.none : Option Jvm.ClassFile.FieldType), 2, 3, 63, 0, 0, false, 4)
 (⟨"WingHouse$Reader", "unit", "(LWingHouse$Bars;)V"⟩, prog_6_method_21_code, 2, (Option.none : Option Jvm.ClassFile.FieldType), 2, 2, 42, 0, 0, false, 4))
 (cond (Nat.ble k 47)
 (⟨"WingHouse$Reader", "rankOf", "(I)I"⟩, prog_6_method_22_code, 1, (Option.some Jvm.ClassFile.FieldType.int), 1, 0, 0, 0, 0, true, 4)
 (⟨"WingHouse$Reader", "waitFor", "(I)V"⟩, prog_6_method_23_code, 2, (Option.none : Option Jvm.ClassFile.FieldType), 2, 0, 0, 0, 0, false, 4)))))
 (cond (Nat.ble k 56)
 (cond (Nat.ble k 52)
 (cond (Nat.ble k 50)
 (cond (Nat.ble k 49)
 (⟨"WingHouse$Reader", "release", "(LWingHouse$Bars;I)V"⟩, prog_6_method_24_code, 4, (Option.none : Option Jvm.ClassFile.FieldType), 3, 1, 22, 0, 0, false, 4)
 (⟨"WingHouse$Runs", "<init>", "(LWingHouse$Solver;)V"⟩, prog_7_method_1_code, 2, (Option.none : Option Jvm.ClassFile.FieldType), 2, 1, 14, 7, 364, false, 5))
 (cond (Nat.ble k 51)
 (⟨"WingHouse$Runs", "addRun", "(IIIII)I"⟩, prog_7_method_2_code, 6, (Option.some Jvm.ClassFile.FieldType.int), 6, 0, 0, 0, 0, false, 5)
 (⟨"WingHouse$Runs", "addVoid", "(I)I"⟩, prog_7_method_3_code, 2, (Option.some Jvm.ClassFile.FieldType.int), 2, 0, 0, 0, 0, false, 5)))
 (cond (Nat.ble k 54)
 (cond (Nat.ble k 53)
 (⟨"WingHouse$Runs", "isRun", "(I)Z"⟩, prog_7_method_4_code, 2, (Option.some Jvm.ClassFile.FieldType.boolean), 2, 0, 0, 0, 0, false, 5)
 (⟨"WingHouse$Runs", "putRight", "(I)J"⟩, prog_7_method_5_code, 2, (Option.some Jvm.ClassFile.FieldType.long), 2, 1, 23, 0, 0, false, 5))
 (cond (Nat.ble k 55)
 (⟨"WingHouse$Runs", "isFit", "(LWingHouse$Text;I)Z"⟩, prog_7_method_6_code, 8, (Option.some Jvm.ClassFile.FieldType.boolean), 3, 6, 142, 0, 0, false, 5)
 (⟨"WingHouse$Runs", "isVoid", "(II)Z"⟩, prog_7_method_7_code, 4, (Option.some Jvm.ClassFile.FieldType.boolean), 3, 0, 0, 0, 0, false, 5))))
 (cond (Nat.ble k 60)
 (cond (Nat.ble k 58)
 (cond (Nat.ble k 57)
 (⟨"WingHouse$Runs", "outBy", "(LWingHouse$Text;I)I"⟩, prog_7_method_8_code, 4, (Option.some Jvm.ClassFile.FieldType.int), 3, 7, 169, 0, 0, false, 5)
 (⟨"WingHouse$Runs", "nextPlace", "([LWingHouse$Text;[ZI)I"⟩, prog_7_method_9_code, 11, (Option.some Jvm.ClassFile.FieldType.int), 4, 7, 176, 0, 0, false, 5))
 (cond (Nat.ble k 59)
 (⟨"WingHouse$Runs", "spreadAt", "([LWingHouse$Text;[ZIII)J"⟩, prog_7_method_10_code, 15, (Option.some Jvm.ClassFile.FieldType.long), 6, 6, 142, 0, 0, false, 5)
 (⟨"WingHouse$Solver", "<init>", "()V"⟩, prog_8_method_1_code, 1, (Option.none : Option Jvm.ClassFile.FieldType), 1, 2, 34, 10, 98, false, 6)))
 (cond (Nat.ble k 62)
 (cond (Nat.ble k 61)
 (⟨"WingHouse$Solver", "setOut", "(LWingHouse$Text;LWingHouse$Wing;II[I[I)V"⟩, prog_8_method_2_code, 10, (Option.none : Option Jvm.ClassFile.FieldType), 7, 2, 46, 0, 0, false, 6)
 (⟨"WingHouse$Solver", "turnStrip", "(II)V"⟩, prog_8_method_3_code, 3, (Option.none : Option Jvm.ClassFile.FieldType), 3, 0, 0, 0, 0, false, 6))
 (cond (Nat.ble k 63)
 (⟨"WingHouse$Solver", "comeBehind", "(LWingHouse$Flow;I)V"⟩, prog_8_method_4_code, 7, (Option.none : Option Jvm.ClassFile.FieldType), 3, 1, 25, 0, 0, false, 6)
 (cond (Nat.ble k 64)
 (⟨"WingHouse$Solver", "settle", "()I"⟩, prog_8_method_5_code, 2, (Option.some Jvm.ClassFile.FieldType.int), 1, 4, 96, 0, 0, false, 6)
 (⟨"WingHouse$Solver", "goRound", "()Z"⟩, prog_8_method_6_code, 7, (Option.some Jvm.ClassFile.FieldType.boolean), 1, 3, 70, 0, 0, false, 6))))))))
 (cond (Nat.ble k 98)
 (cond (Nat.ble k 81)
 (cond (Nat.ble k 73)
 (cond (Nat.ble k 69)
 (cond (Nat.ble k 67)
 (cond (Nat.ble k 66)
 (⟨"WingHouse$Solver", "tellDown", "(J)V"⟩, prog_8_method_7_code, 9, (Option.none : Option Jvm.ClassFile.FieldType), 2, 1, 23, 0, 0, false, 6)
 (⟨"WingHouse$Solver", "liftByGround", "(J)V"⟩, prog_8_method_8_code, 9, (Option.none : Option Jvm.ClassFile.FieldType), 2, 1, 23, 0, 0, false, 6))
 (cond (Nat.ble k 68)
 (⟨"WingHouse$Solver", "tellBend", "(J)V"⟩, prog_8_method_9_code, 8, (Option.none : Option Jvm.ClassFile.FieldType), 2, 1, 23, 0, 0, false, 6)
 (⟨"WingHouse$Solver", "restLift", "(LWingHouse$Text;LWingHouse$Wing;II[I)J"⟩, prog_8_method_10_code, 6, (Option.some Jvm.ClassFile.FieldType.long), 6, 5, 117, 0, 0, false, 6)))
 (cond (Nat.ble k 71)
 (cond (Nat.ble k 70)
 (⟨"WingHouse$Text", "<init>", "()V"⟩, prog_9_method_1_code, 2, (Option.none : Option Jvm.ClassFile.FieldType), 1, 3, 54, 85, 1753, false, 7)
 (⟨"WingHouse$Text", "clear", "()V"⟩, prog_9_method_2_code, 2, (Option.none : Option Jvm.ClassFile.FieldType), 1, 3, 66, 0, 0, false, 7))
 (cond (Nat.ble k 72)
 (⟨"WingHouse$Text", "nameIndex", "(J)I"⟩, prog_9_method_3_code, 4, (Option.some Jvm.ClassFile.FieldType.int), 2, 0, 0, 0, 0, false, 7)
 (⟨"WingHouse$Text", "numberNamed", "(JI)I"⟩, prog_9_method_4_code, 5, (Option.some Jvm.ClassFile.FieldType.int), 3, 1, 23, 0, 0, false, 7))))
 (cond (Nat.ble k 77)
 (cond (Nat.ble k 75)
 (cond (Nat.ble k 74)
 (⟨"WingHouse$Text", "addName", "(JII)V"⟩, prog_9_method_5_code, 5, (Option.none : Option Jvm.ClassFile.FieldType), 4, 0, 0, 0, 0, false, 7)
 (⟨"WingHouse$Text", "wingNumbered", "(I)LWingHouse$Wing;"⟩, prog_9_method_6_code, 2, (Option.some (Jvm.ClassFile.FieldType.object "WingHouse$Wing")), 2, 0, 0, 0, 0, false, 7))
 (cond (Nat.ble k 76)
 (⟨"WingHouse$Text", "lawValue", "(IJ)J"⟩, prog_9_method_7_code, 4, (Option.some Jvm.ClassFile.FieldType.long), 3, 2, 47, 0, 0, false, 7)
 (⟨"WingHouse$Text", "dragNow", "(LWingHouse$Wing;LWingHouse$Flow;)J"⟩, prog_9_method_8_code, 8, (Option.some Jvm.ClassFile.FieldType.long), 3, 3, 70, 0, 0, false, 7)))
 (cond (Nat.ble k 79)
 (cond (Nat.ble k 78)
 (⟨"WingHouse$Text", "firstBarred", "(LWingHouse$Wing;LWingHouse$Flow;[I)I"⟩, prog_9_method_9_code, 7, (Option.some Jvm.ClassFile.FieldType.int), 4, 3, 70, 0, 0, false, 7)
 (⟨"WingHouse$Text", "countOf", "(I)I"⟩, prog_9_method_10_code, 3, (Option.some Jvm.ClassFile.FieldType.int), 2, 1, 21, 0, 0, false, 7))
 (cond (Nat.ble k 80)
 (⟨"WingHouse$Tokens", "<init>", "()V"⟩, prog_10_method_1_code, 3, (Option.none : Option Jvm.ClassFile.FieldType), 1, 5, 106, 4, 1525, false, 8)
 (⟨"WingHouse$Tokens", "withLetter", "(JI)J"⟩, prog_10_method_2_code, 3, (Option.some Jvm.ClassFile.FieldType.long), 2, 0, 0, 0, 0, true, 8)))))
 (cond (Nat.ble k 89)
 (cond (Nat.ble k 85)
 (cond (Nat.ble k 83)
 (cond (Nat.ble k 82)
 (⟨"WingHouse$Tokens", "isBlank", "(I)Z"⟩, prog_10_method_3_code, 1, (Option.some Jvm.ClassFile.FieldType.boolean), 1, 0, 0, 0, 0, true, 8)
 (⟨"WingHouse$Tokens", "isLetter", "(I)Z"⟩, prog_10_method_4_code, 1, (Option.some Jvm.ClassFile.FieldType.boolean), 1, 0, 0, 0, 0, true, 8))
 (cond (Nat.ble k 84)
 (⟨"WingHouse$Tokens", "isDigit", "(I)Z"⟩, prog_10_method_5_code, 1, (Option.some Jvm.ClassFile.FieldType.boolean), 1, 0, 0, 0, 0, true, 8)
 (⟨"WingHouse$Tokens", "isComparison", "(I)Z"⟩, prog_10_method_6_code, 1, (Option.some Jvm.ClassFile.FieldType.boolean), 1, 0, 0, 0, 0, true, 8)))
 (cond (Nat.ble k 87)
 (cond (Nat.ble k 86)
 (⟨"WingHouse$Tokens", "isVariable", "(I)Z"⟩, prog_10_method_7_code, 1, (Option.some Jvm.ClassFile.FieldType.boolean), 1, 0, 0, 0, 0, true, 8)
 (⟨"WingHouse$Tokens", "scanAll", "([BI)V"⟩, prog_10_method_8_code, 4, (Option.none : Option Jvm.ClassFile.FieldType), 3, 3, 69, 0, 0, false, 8))
 (cond (Nat.ble k 88)
 (⟨"WingHouse$Tokens", "kindOf", "(I)I"⟩, prog_10_method_9_code, 2, (Option.some Jvm.ClassFile.FieldType.int), 2, 0, 0, 0, 0, false, 8)
 (⟨"WingHouse$Tokens", "fromOf", "(I)I"⟩, prog_10_method_10_code, 2, (Option.some Jvm.ClassFile.FieldType.int), 2, 0, 0, 0, 0, false, 8))))
 (cond (Nat.ble k 93)
 (cond (Nat.ble k 91)
 (cond (Nat.ble k 90)
 (⟨"WingHouse$Tokens", "valueOf", "(I)J"⟩, prog_10_method_11_code, 2, (Option.some Jvm.ClassFile.FieldType.long), 2, 0, 0, 0, 0, false, 8)
 (⟨"WingHouse$Tokens", "byteAt", "(I)I"⟩, prog_10_method_12_code, 2, (Option.some Jvm.ClassFile.FieldType.int), 2, 0, 0, 0, 0, false, 8))
 (cond (Nat.ble k 92)
 (⟨"WingHouse$Tokens", "scanOne", "(I)V"⟩, prog_10_method_13_code, 3, (Option.none : Option Jvm.ClassFile.FieldType), 2, 2, 47, 0, 0, false, 8)
 (⟨"WingHouse$Tokens", "wordFrom", "(I)I"⟩, prog_10_method_14_code, 6, (Option.some Jvm.ClassFile.FieldType.int), 2, 1, 22, 0, 0, false, 8)))
 (cond (Nat.ble k 95)
 (cond (Nat.ble k 94)
 (⟨"WingHouse$Tokens", "numberFrom", "(I)I"⟩, prog_10_method_15_code, 4, (Option.some Jvm.ClassFile.FieldType.int), 2, 1, 21, 0, 0, false, 8)
 (⟨"WingHouse$Tokens", "signFrom", "(I)I"⟩, prog_10_method_16_code, 3, (Option.some Jvm.ClassFile.FieldType.int), 2, 1, 21, 0, 0, false, 8))
 (cond (Nat.ble k 96)
 (⟨"WingHouse$Trials", "<init>", "(LWingHouse$Solver;)V"⟩, prog_11_method_1_code, 2, (Option.none : Option Jvm.ClassFile.FieldType), 2, 2, 34, 9, 291, false, 9)
 (cond (Nat.ble k 97)
 (⟨"WingHouse$Trials", "drawCurve", "(LWingHouse$Text;LWingHouse$Wing;III)I"⟩, prog_11_method_2_code, 14, (Option.some Jvm.ClassFile.FieldType.int), 6, 5, 117, 0, 0, false, 9)
 (⟨"WingHouse$Trials", "findTrims", "(LWingHouse$Text;LWingHouse$Wing;IJ)I"⟩, prog_11_method_3_code, 11, (Option.some Jvm.ClassFile.FieldType.int), 5, 6, 142, 0, 0, false, 9)))))))
 (cond (Nat.ble k 114)
 (cond (Nat.ble k 106)
 (cond (Nat.ble k 102)
 (cond (Nat.ble k 100)
 (cond (Nat.ble k 99)
 (⟨"WingHouse$Trials", "foldSpeed", "(LWingHouse$Text;LWingHouse$Wing;I)I"⟩, prog_11_method_4_code, 5, (Option.some Jvm.ClassFile.FieldType.int), 4, 5, 117, 0, 0, false, 9)
 (⟨"WingHouse$Trials", "isFolded", "(LWingHouse$Flow;)Z"⟩, prog_11_method_5_code, 2, (Option.some Jvm.ClassFile.FieldType.boolean), 1, 0, 0, 0, 0, true, 9))
 (cond (Nat.ble k 101)
 (⟨"WingHouse$Trials", "shakesAt", "(LWingHouse$Text;LWingHouse$Wing;II)I"⟩, prog_11_method_6_code, 12, (Option.some Jvm.ClassFile.FieldType.int), 5, 5, 117, 0, 0, false, 9)
 (⟨"WingHouse$Trials", "isGrowing", "([IJ)Z"⟩, prog_11_method_7_code, 12, (Option.some Jvm.ClassFile.FieldType.boolean), 2, 2, 44, 0, 0, true, 9)))
 (cond (Nat.ble k 104)
 (cond (Nat.ble k 103)
 (⟨"WingHouse$Trials", "held", "(J)J"⟩, prog_11_method_8_code, 2, (Option.some Jvm.ClassFile.FieldType.long), 1, 1, 23, 0, 0, true, 9)
 (⟨"WingHouse$Wing", "<init>", "()V"⟩, prog_12_method_1_code, 1, (Option.none : Option Jvm.ClassFile.FieldType), 1, 2, 34, 11, 101, false, 10))
 (cond (Nat.ble k 105)
 (⟨"WingHouse$Wing", "untell", "()V"⟩, prog_12_method_2_code, 1, (Option.none : Option Jvm.ClassFile.FieldType), 1, 2, 46, 0, 0, false, 10)
 (⟨"WingHouse$Wing", "addStrip", "(IIIII)V"⟩, prog_12_method_3_code, 6, (Option.none : Option Jvm.ClassFile.FieldType), 6, 0, 0, 0, 0, false, 10))))
 (cond (Nat.ble k 110)
 (cond (Nat.ble k 108)
 (cond (Nat.ble k 107)
 (⟨"WingHouse", "<init>", "()V"⟩, prog_1_method_1_code, 2, (Option.none : Option Jvm.ClassFile.FieldType), 1, 7, 148, 390, 11465, false, 11)
 (⟨"WingHouse", "feed", "(IIIII)I"⟩, prog_1_method_2_code, 6, (Option.some Jvm.ClassFile.FieldType.int), 6, 1, 22, 0, 0, false, 11))
 (cond (Nat.ble k 109)
 (⟨"WingHouse", "putFour", "(I)V"⟩, prog_1_method_3_code, 3, (Option.none : Option Jvm.ClassFile.FieldType), 2, 0, 0, 0, 0, false, 11)
 (⟨"WingHouse", "back", "(I)I"⟩, prog_1_method_4_code, 2, (Option.some Jvm.ClassFile.FieldType.int), 2, 0, 0, 0, 0, false, 11)))
 (cond (Nat.ble k 112)
 (cond (Nat.ble k 111)
 (⟨"WingHouse", "read", "()I"⟩, prog_1_method_5_code, 2, (Option.some Jvm.ClassFile.FieldType.int), 1, 7, 163, 0, 0, false, 11)
 (⟨"WingHouse", "place", "()I"⟩, prog_1_method_6_code, 1, (Option.some Jvm.ClassFile.FieldType.int), 1, 0, 0, 0, 0, false, 11))
 (cond (Nat.ble k 113)
 (⟨"WingHouse", "use", "(I)Z"⟩, prog_1_method_7_code, 2, (Option.some Jvm.ClassFile.FieldType.boolean), 2, 1, 21, 0, 0, false, 11)
 (⟨"WingHouse", "textOf", "(I)LWingHouse$Text;"⟩, prog_1_method_8_code, 2, (Option.some (Jvm.ClassFile.FieldType.object "WingHouse$Text")), 2, 0, 0, 0, 0, false, 11)))))
 (cond (Nat.ble k 122)
 (cond (Nat.ble k 118)
 (cond (Nat.ble k 116)
 (cond (Nat.ble k 115)
 (⟨"WingHouse", "wingOf", "(LWingHouse$Text;I)LWingHouse$Wing;"⟩, prog_1_method_9_code, 2, (Option.some (Jvm.ClassFile.FieldType.object "WingHouse$Wing")), 2, 1, 21, 0, 0, true, 11)
 (⟨"WingHouse", "isSpeed", "(I)Z"⟩, prog_1_method_10_code, 1, (Option.some Jvm.ClassFile.FieldType.boolean), 1, 0, 0, 0, 0, true, 11))
 (cond (Nat.ble k 117)
 (⟨"WingHouse", "isSlant", "(I)Z"⟩, prog_1_method_11_code, 1, (Option.some Jvm.ClassFile.FieldType.boolean), 1, 0, 0, 0, 0, true, 11)
 (⟨"WingHouse", "over", "(JJ)J"⟩, prog_1_method_12_code, 4, (Option.some Jvm.ClassFile.FieldType.long), 2, 0, 0, 0, 0, true, 11)))
 (cond (Nat.ble k 120)
 (cond (Nat.ble k 119)
 (⟨"WingHouse", "law", "(II)I"⟩, prog_1_method_13_code, 4, (Option.some Jvm.ClassFile.FieldType.int), 3, 3, 70, 0, 0, false, 11)
 (⟨"WingHouse", "hinge", "(II)Z"⟩, prog_1_method_14_code, 4, (Option.some Jvm.ClassFile.FieldType.boolean), 3, 1, 21, 0, 0, false, 11))
 (cond (Nat.ble k 121)
 (⟨"WingHouse", "gust", "(II)Z"⟩, prog_1_method_15_code, 3, (Option.some Jvm.ClassFile.FieldType.boolean), 3, 0, 0, 0, 0, false, 11)
 (⟨"WingHouse", "solve", "(IIIZ)I"⟩, prog_1_method_16_code, 7, (Option.some Jvm.ClassFile.FieldType.int), 5, 6, 139, 0, 0, false, 11))))
 (cond (Nat.ble k 126)
 (cond (Nat.ble k 124)
 (cond (Nat.ble k 123)
 (⟨"WingHouse", "ground", "(IIII)I"⟩, prog_1_method_17_code, 7, (Option.some Jvm.ClassFile.FieldType.int), 5, 6, 139, 0, 0, false, 11)
 (⟨"WingHouse", "follow", "(IIIII)I"⟩, prog_1_method_18_code, 9, (Option.some Jvm.ClassFile.FieldType.int), 6, 6, 139, 0, 0, false, 11))
 (cond (Nat.ble k 125)
 (⟨"WingHouse", "settleAndKeep", "(LWingHouse$Wing;)I"⟩, prog_1_method_19_code, 3, (Option.some Jvm.ClassFile.FieldType.int), 2, 5, 117, 0, 0, false, 11)
 (⟨"WingHouse", "solvedWing", "(I)LWingHouse$Wing;"⟩, prog_1_method_20_code, 3, (Option.some (Jvm.ClassFile.FieldType.object "WingHouse$Wing")), 2, 2, 42, 0, 0, false, 11)))
 (cond (Nat.ble k 128)
 (cond (Nat.ble k 127)
 (⟨"WingHouse", "strip", "(III)I"⟩, prog_1_method_21_code, 5, (Option.some Jvm.ClassFile.FieldType.int), 4, 3, 64, 0, 0, false, 11)
 (⟨"WingHouse", "edge", "(II)I"⟩, prog_1_method_22_code, 4, (Option.some Jvm.ClassFile.FieldType.int), 3, 3, 64, 0, 0, false, 11))
 (cond (Nat.ble k 129)
 (⟨"WingHouse", "force", "(II)J"⟩, prog_1_method_23_code, 5, (Option.some Jvm.ClassFile.FieldType.long), 3, 4, 97, 0, 0, false, 11)
 (cond (Nat.ble k 130)
 (⟨"WingHouse", "barred", "(I)I"⟩, prog_1_method_24_code, 5, (Option.some Jvm.ClassFile.FieldType.int), 2, 4, 96, 0, 0, false, 11)
 (⟨"WingHouse", "where", "(I)I"⟩, prog_1_method_25_code, 5, (Option.some Jvm.ClassFile.FieldType.int), 2, 4, 96, 0, 0, false, 11)))))))))
 (cond (Nat.ble k 197)
 (cond (Nat.ble k 164)
 (cond (Nat.ble k 147)
 (cond (Nat.ble k 139)
 (cond (Nat.ble k 135)
 (cond (Nat.ble k 133)
 (cond (Nat.ble k 132)
 (⟨"WingHouse", "curve", "(IIII)I"⟩, prog_1_method_26_code, 7, (Option.some Jvm.ClassFile.FieldType.int), 5, 6, 150, 0, 0, false, 11)
 (⟨"WingHouse", "lift", "(I)J"⟩, prog_1_method_27_code, 2, (Option.some Jvm.ClassFile.FieldType.long), 2, 1, 20, 0, 0, false, 11))
 (cond (Nat.ble k 134)
 (⟨"WingHouse", "trims", "(III)I"⟩, prog_1_method_28_code, 6, (Option.some Jvm.ClassFile.FieldType.int), 4, 7, 172, 0, 0, false, 11)
 (⟨"WingHouse", "trim", "(IIII)I"⟩, prog_1_method_29_code, 8, (Option.some Jvm.ClassFile.FieldType.int), 5, 7, 172, 0, 0, false, 11)))
 (cond (Nat.ble k 137)
 (cond (Nat.ble k 136)
 (⟨"WingHouse", "stays", "(IIII)I"⟩, prog_1_method_30_code, 8, (Option.some Jvm.ClassFile.FieldType.int), 5, 7, 172, 0, 0, false, 11)
 (⟨"WingHouse", "fold", "(II)I"⟩, prog_1_method_31_code, 5, (Option.some Jvm.ClassFile.FieldType.int), 3, 6, 141, 0, 0, false, 11))
 (cond (Nat.ble k 138)
 (⟨"WingHouse", "shakes", "(III)I"⟩, prog_1_method_32_code, 6, (Option.some Jvm.ClassFile.FieldType.int), 4, 6, 148, 0, 0, false, 11)
 (⟨"WingHouse", "shake", "(II)I"⟩, prog_1_method_33_code, 6, (Option.some Jvm.ClassFile.FieldType.int), 3, 6, 148, 0, 0, false, 11))))
 (cond (Nat.ble k 143)
 (cond (Nat.ble k 141)
 (cond (Nat.ble k 140)
 (⟨"WingHouse", "best", "(IIIII)J"⟩, prog_1_method_34_code, 8, (Option.some Jvm.ClassFile.FieldType.long), 6, 7, 171, 0, 0, false, 11)
 (⟨"WingHouse", "twist", "(I)I"⟩, prog_1_method_35_code, 2, (Option.some Jvm.ClassFile.FieldType.int), 2, 1, 21, 0, 0, false, 11))
 (cond (Nat.ble k 142)
 (⟨"WingHouse", "run", "(IIIII)I"⟩, prog_1_method_36_code, 6, (Option.some Jvm.ClassFile.FieldType.int), 6, 1, 25, 0, 0, false, 11)
 (⟨"WingHouse", "annul", "(I)I"⟩, prog_1_method_37_code, 2, (Option.some Jvm.ClassFile.FieldType.int), 2, 1, 21, 0, 0, false, 11)))
 (cond (Nat.ble k 145)
 (cond (Nat.ble k 144)
 (⟨"WingHouse", "right", "(I)I"⟩, prog_1_method_38_code, 2, (Option.some Jvm.ClassFile.FieldType.int), 2, 2, 44, 0, 0, false, 11)
 (⟨"WingHouse", "fits", "(II)I"⟩, prog_1_method_39_code, 4, (Option.some Jvm.ClassFile.FieldType.int), 3, 7, 169, 0, 0, false, 11))
 (cond (Nat.ble k 146)
 (⟨"WingHouse", "out", "(II)I"⟩, prog_1_method_40_code, 4, (Option.some Jvm.ClassFile.FieldType.int), 3, 8, 192, 0, 0, false, 11)
 (⟨"WingHouse", "next", "(II)I"⟩, prog_1_method_41_code, 4, (Option.some Jvm.ClassFile.FieldType.int), 3, 8, 206, 0, 0, false, 11)))))
 (cond (Nat.ble k 155)
 (cond (Nat.ble k 151)
 (cond (Nat.ble k 149)
 (cond (Nat.ble k 148)
 (⟨"WingHouse", "count", "(I)I"⟩, prog_1_method_42_code, 3, (Option.some Jvm.ClassFile.FieldType.int), 2, 2, 43, 0, 0, false, 11)
 (⟨"WingHouseModel", "<init>", "()V"⟩, prog_14_method_2_code, 2, (Option.none : Option Jvm.ClassFile.FieldType), 1, 2, 48, 74, 21630, false, 12))
 (cond (Nat.ble k 150)
 (⟨"WingHouseModel", "feed", "(IIIII)I"⟩, prog_14_method_3_code, 6, (Option.some Jvm.ClassFile.FieldType.int), 6, 1, 22, 0, 0, false, 12)
 (⟨"WingHouseModel", "put", "(I)V"⟩, prog_14_method_4_code, 3, (Option.none : Option Jvm.ClassFile.FieldType), 2, 0, 0, 0, 0, false, 12)))
 (cond (Nat.ble k 153)
 (cond (Nat.ble k 152)
 (⟨"WingHouseModel", "back", "(I)I"⟩, prog_14_method_5_code, 2, (Option.some Jvm.ClassFile.FieldType.int), 2, 0, 0, 0, 0, false, 12)
 (⟨"WingHouseModel", "at", "(I)I"⟩, prog_14_method_6_code, 2, (Option.some Jvm.ClassFile.FieldType.int), 2, 0, 0, 0, 0, false, 12))
 (cond (Nat.ble k 154)
 (⟨"WingHouseModel", "isDigit", "(I)Z"⟩, prog_14_method_7_code, 1, (Option.some Jvm.ClassFile.FieldType.boolean), 1, 0, 0, 0, 0, true, 12)
 (⟨"WingHouseModel", "isLetter", "(I)Z"⟩, prog_14_method_8_code, 1, (Option.some Jvm.ClassFile.FieldType.boolean), 1, 0, 0, 0, 0, true, 12))))
 (cond (Nat.ble k 159)
 (cond (Nat.ble k 157)
 (cond (Nat.ble k 156)
 (⟨"WingHouseModel", "more", "(JI)J"⟩, prog_14_method_9_code, 3, (Option.some Jvm.ClassFile.FieldType.long), 2, 0, 0, 0, 0, true, 12)
 (⟨"WingHouseModel", "word", "(IIIIIII)J"⟩, prog_14_method_10_code, 7, (Option.some Jvm.ClassFile.FieldType.long), 7, 1, 22, 0, 0, true, 12))
 (cond (Nat.ble k 158)
 (⟨"WingHouseModel", "token", "(IIIJ)V"⟩, prog_14_method_11_code, 6, (Option.none : Option Jvm.ClassFile.FieldType), 5, 0, 0, 0, 0, false, 12)
 (⟨"WingHouseModel", "cut", "()V"⟩, prog_14_method_12_code, 8, (Option.none : Option Jvm.ClassFile.FieldType), 1, 2, 50, 0, 0, false, 12)))
 (cond (Nat.ble k 161)
 (cond (Nat.ble k 160)
 (⟨"WingHouseModel", "sign", "(III)I"⟩, prog_14_method_13_code, 6, (Option.some Jvm.ClassFile.FieldType.int), 4, 1, 25, 0, 0, false, 12)
 (⟨"WingHouseModel", "is", "(I)Z"⟩, prog_14_method_14_code, 2, (Option.some Jvm.ClassFile.FieldType.boolean), 2, 0, 0, 0, 0, false, 12))
 (cond (Nat.ble k 162)
 (⟨"WingHouseModel", "fail", "(I)V"⟩, prog_14_method_15_code, 2, (Option.none : Option Jvm.ClassFile.FieldType), 2, 0, 0, 0, 0, false, 12)
 (cond (Nat.ble k 163)
 (⟨"WingHouseModel", "wrong", "(II)V"⟩, prog_14_method_16_code, 4, (Option.none : Option Jvm.ClassFile.FieldType), 3, 0, 0, 0, 0, false, 12)
 (⟨"WingHouseModel", "goesOn", "()V"⟩, prog_14_method_17_code, 1, (Option.none : Option Jvm.ClassFile.FieldType), 1, 1, 21, 0, 0, false, 12)))))))
 (cond (Nat.ble k 180)
 (cond (Nat.ble k 172)
 (cond (Nat.ble k 168)
 (cond (Nat.ble k 166)
 (cond (Nat.ble k 165)
 (⟨"WingHouseModel", "must", "(I)V"⟩, prog_14_method_18_code, 2, (Option.none : Option Jvm.ClassFile.FieldType), 2, 2, 41, 0, 0, false, 12)
 (⟨"WingHouseModel", "read", "()I"⟩, prog_14_method_19_code, 2, (Option.some Jvm.ClassFile.FieldType.int), 1, 7, 152, 0, 0, false, 12))
 (cond (Nat.ble k 167)
 (⟨"WingHouseModel", "place", "()I"⟩, prog_14_method_20_code, 1, (Option.some Jvm.ClassFile.FieldType.int), 1, 0, 0, 0, 0, false, 12)
 (⟨"WingHouseModel", "tell", "()V"⟩, prog_14_method_21_code, 1, (Option.none : Option Jvm.ClassFile.FieldType), 1, 6, 132, 0, 0, false, 12)))
 (cond (Nat.ble k 170)
 (cond (Nat.ble k 169)
 (⟨"WingHouseModel", "named", "()I"⟩, prog_14_method_22_code, 6, (Option.some Jvm.ClassFile.FieldType.int), 1, 3, 62, 0, 0, false, 12)
 (⟨"WingHouseModel", "number", "(Z)I"⟩, prog_14_method_23_code, 4, (Option.some Jvm.ClassFile.FieldType.int), 2, 3, 62, 0, 0, false, 12))
 (cond (Nat.ble k 171)
 (⟨"WingHouseModel", "within", "(III)V"⟩, prog_14_method_24_code, 4, (Option.none : Option Jvm.ClassFile.FieldType), 4, 1, 23, 0, 0, false, 12)
 (⟨"WingHouseModel", "tellLaw", "()V"⟩, prog_14_method_25_code, 7, (Option.none : Option Jvm.ClassFile.FieldType), 1, 4, 87, 0, 0, false, 12))))
 (cond (Nat.ble k 176)
 (cond (Nat.ble k 174)
 (cond (Nat.ble k 173)
 (⟨"WingHouseModel", "tellHinge", "()V"⟩, prog_14_method_26_code, 4, (Option.none : Option Jvm.ClassFile.FieldType), 1, 4, 87, 0, 0, false, 12)
 (⟨"WingHouseModel", "lawNamed", "(Z)I"⟩, prog_14_method_27_code, 5, (Option.some Jvm.ClassFile.FieldType.int), 2, 3, 62, 0, 0, false, 12))
 (cond (Nat.ble k 175)
 (⟨"WingHouseModel", "hingeNamed", "()I"⟩, prog_14_method_28_code, 4, (Option.some Jvm.ClassFile.FieldType.int), 1, 3, 62, 0, 0, false, 12)
 (⟨"WingHouseModel", "tellWing", "()V"⟩, prog_14_method_29_code, 5, (Option.none : Option Jvm.ClassFile.FieldType), 1, 5, 108, 0, 0, false, 12)))
 (cond (Nat.ble k 178)
 (cond (Nat.ble k 177)
 (⟨"WingHouseModel", "tellMore", "(I)V"⟩, prog_14_method_30_code, 4, (Option.none : Option Jvm.ClassFile.FieldType), 2, 4, 85, 0, 0, false, 12)
 (⟨"WingHouseModel", "tellBar", "()V"⟩, prog_14_method_31_code, 5, (Option.none : Option Jvm.ClassFile.FieldType), 1, 5, 108, 0, 0, false, 12))
 (cond (Nat.ble k 179)
 (⟨"WingHouseModel", "literal", "(Z)V"⟩, prog_14_method_32_code, 6, (Option.none : Option Jvm.ClassFile.FieldType), 2, 4, 83, 0, 0, false, 12)
 (⟨"WingHouseModel", "emit", "(II)V"⟩, prog_14_method_33_code, 3, (Option.none : Option Jvm.ClassFile.FieldType), 3, 0, 0, 0, 0, false, 12)))))
 (cond (Nat.ble k 188)
 (cond (Nat.ble k 184)
 (cond (Nat.ble k 182)
 (cond (Nat.ble k 181)
 (⟨"WingHouseModel", "comesOut", "(Z)V"⟩, prog_14_method_34_code, 3, (Option.none : Option Jvm.ClassFile.FieldType), 2, 1, 22, 0, 0, false, 12)
 (⟨"WingHouseModel", "expression", "()V"⟩, prog_14_method_35_code, 3, (Option.none : Option Jvm.ClassFile.FieldType), 1, 3, 61, 0, 0, false, 12))
 (cond (Nat.ble k 183)
 (⟨"WingHouseModel", "unit", "()V"⟩, prog_14_method_36_code, 1, (Option.none : Option Jvm.ClassFile.FieldType), 1, 2, 41, 0, 0, false, 12)
 (⟨"WingHouseModel", "termOf", "(II)I"⟩, prog_14_method_37_code, 8, (Option.some Jvm.ClassFile.FieldType.int), 3, 0, 0, 0, 0, false, 12)))
 (cond (Nat.ble k 186)
 (cond (Nat.ble k 185)
 (⟨"WingHouseModel", "isTrue", "(I)Z"⟩, prog_14_method_38_code, 6, (Option.some Jvm.ClassFile.FieldType.boolean), 2, 1, 27, 0, 0, false, 12)
 (⟨"WingHouseModel", "holds", "(I)Z"⟩, prog_14_method_39_code, 4, (Option.some Jvm.ClassFile.FieldType.boolean), 2, 2, 52, 0, 0, false, 12))
 (cond (Nat.ble k 187)
 (⟨"WingHouseModel", "valueOf", "(IJ)J"⟩, prog_14_method_40_code, 11, (Option.some Jvm.ClassFile.FieldType.long), 3, 0, 0, 0, 0, false, 12)
 (⟨"WingHouseModel", "edgeOf", "(I)J"⟩, prog_14_method_41_code, 2, (Option.some Jvm.ClassFile.FieldType.long), 2, 0, 0, 0, 0, false, 12))))
 (cond (Nat.ble k 192)
 (cond (Nat.ble k 190)
 (cond (Nat.ble k 189)
 (⟨"WingHouseModel", "leaderEdge", "(II)J"⟩, prog_14_method_42_code, 3, (Option.some Jvm.ClassFile.FieldType.long), 3, 0, 0, 0, 0, false, 12)
 (⟨"WingHouseModel", "downOf", "(I)J"⟩, prog_14_method_43_code, 12, (Option.some Jvm.ClassFile.FieldType.long), 2, 1, 22, 0, 0, false, 12))
 (cond (Nat.ble k 191)
 (⟨"WingHouseModel", "bendOf", "(I)J"⟩, prog_14_method_44_code, 6, (Option.some Jvm.ClassFile.FieldType.long), 2, 0, 0, 0, 0, false, 12)
 (⟨"WingHouseModel", "lawAt", "(IJ)J"⟩, prog_14_method_45_code, 4, (Option.some Jvm.ClassFile.FieldType.long), 3, 1, 30, 0, 0, false, 12)))
 (cond (Nat.ble k 194)
 (cond (Nat.ble k 193)
 (⟨"WingHouseModel", "round", "()Z"⟩, prog_14_method_46_code, 3, (Option.some Jvm.ClassFile.FieldType.boolean), 1, 2, 53, 0, 0, false, 12)
 (⟨"WingHouseModel", "rests", "()V"⟩, prog_14_method_47_code, 2, (Option.none : Option Jvm.ClassFile.FieldType), 1, 0, 0, 0, 0, false, 12))
 (cond (Nat.ble k 195)
 (⟨"WingHouseModel", "stands", "(IIIZZ)V"⟩, prog_14_method_48_code, 7, (Option.none : Option Jvm.ClassFile.FieldType), 6, 0, 0, 0, 0, false, 12)
 (cond (Nat.ble k 196)
 (⟨"WingHouseModel", "rounds", "()I"⟩, prog_14_method_49_code, 2, (Option.some Jvm.ClassFile.FieldType.int), 1, 3, 75, 0, 0, false, 12)
 (⟨"WingHouseModel", "keeps", "(I)I"⟩, prog_14_method_50_code, 3, (Option.some Jvm.ClassFile.FieldType.int), 2, 0, 0, 0, 0, false, 12))))))))
 (cond (Nat.ble k 230)
 (cond (Nat.ble k 213)
 (cond (Nat.ble k 205)
 (cond (Nat.ble k 201)
 (cond (Nat.ble k 199)
 (cond (Nat.ble k 198)
 (⟨"WingHouseModel", "forceNow", "(I)J"⟩, prog_14_method_51_code, 7, (Option.some Jvm.ClassFile.FieldType.long), 2, 1, 30, 0, 0, false, 12)
 (⟨"WingHouseModel", "barNow", "()I"⟩, prog_14_method_52_code, 4, (Option.some Jvm.ClassFile.FieldType.int), 1, 3, 75, 0, 0, false, 12))
 (cond (Nat.ble k 200)
 (⟨"WingHouseModel", "in", "(III)Z"⟩, prog_14_method_53_code, 3, (Option.some Jvm.ClassFile.FieldType.boolean), 3, 0, 0, 0, 0, true, 12)
 (⟨"WingHouseModel", "isSpeed", "(I)Z"⟩, prog_14_method_54_code, 1, (Option.some Jvm.ClassFile.FieldType.boolean), 1, 1, 22, 0, 0, true, 12)))
 (cond (Nat.ble k 203)
 (cond (Nat.ble k 202)
 (⟨"WingHouseModel", "isSlant", "(I)Z"⟩, prog_14_method_55_code, 1, (Option.some Jvm.ClassFile.FieldType.boolean), 1, 1, 22, 0, 0, true, 12)
 (⟨"WingHouseModel", "use", "(I)Z"⟩, prog_14_method_56_code, 2, (Option.some Jvm.ClassFile.FieldType.boolean), 2, 1, 22, 0, 0, false, 12))
 (cond (Nat.ble k 204)
 (⟨"WingHouseModel", "row", "(I)I"⟩, prog_14_method_57_code, 2, (Option.some Jvm.ClassFile.FieldType.int), 2, 1, 22, 0, 0, false, 12)
 (⟨"WingHouseModel", "law", "(II)I"⟩, prog_14_method_58_code, 3, (Option.some Jvm.ClassFile.FieldType.int), 3, 1, 30, 0, 0, false, 12))))
 (cond (Nat.ble k 209)
 (cond (Nat.ble k 207)
 (cond (Nat.ble k 206)
 (⟨"WingHouseModel", "hinge", "(II)Z"⟩, prog_14_method_59_code, 3, (Option.some Jvm.ClassFile.FieldType.boolean), 3, 1, 22, 0, 0, false, 12)
 (⟨"WingHouseModel", "gust", "(II)Z"⟩, prog_14_method_60_code, 3, (Option.some Jvm.ClassFile.FieldType.boolean), 3, 2, 42, 0, 0, false, 12))
 (cond (Nat.ble k 208)
 (⟨"WingHouseModel", "solve", "(IIIZ)I"⟩, prog_14_method_61_code, 7, (Option.some Jvm.ClassFile.FieldType.int), 5, 4, 96, 0, 0, false, 12)
 (⟨"WingHouseModel", "ground", "(IIII)I"⟩, prog_14_method_62_code, 6, (Option.some Jvm.ClassFile.FieldType.int), 5, 4, 96, 0, 0, false, 12)))
 (cond (Nat.ble k 211)
 (cond (Nat.ble k 210)
 (⟨"WingHouseModel", "follow", "(IIIII)I"⟩, prog_14_method_63_code, 8, (Option.some Jvm.ClassFile.FieldType.int), 6, 4, 96, 0, 0, false, 12)
 (⟨"WingHouseModel", "again", "(I)Z"⟩, prog_14_method_64_code, 4, (Option.some Jvm.ClassFile.FieldType.boolean), 2, 2, 43, 0, 0, false, 12))
 (cond (Nat.ble k 212)
 (⟨"WingHouseModel", "strip", "(III)I"⟩, prog_14_method_65_code, 4, (Option.some Jvm.ClassFile.FieldType.int), 4, 3, 66, 0, 0, false, 12)
 (⟨"WingHouseModel", "edge", "(II)I"⟩, prog_14_method_66_code, 3, (Option.some Jvm.ClassFile.FieldType.int), 3, 3, 66, 0, 0, false, 12)))))
 (cond (Nat.ble k 221)
 (cond (Nat.ble k 217)
 (cond (Nat.ble k 215)
 (cond (Nat.ble k 214)
 (⟨"WingHouseModel", "force", "(II)J"⟩, prog_14_method_67_code, 3, (Option.some Jvm.ClassFile.FieldType.long), 3, 3, 66, 0, 0, false, 12)
 (⟨"WingHouseModel", "barred", "(I)I"⟩, prog_14_method_68_code, 3, (Option.some Jvm.ClassFile.FieldType.int), 2, 4, 98, 0, 0, false, 12))
 (cond (Nat.ble k 216)
 (⟨"WingHouseModel", "where", "(I)I"⟩, prog_14_method_69_code, 3, (Option.some Jvm.ClassFile.FieldType.int), 2, 4, 98, 0, 0, false, 12)
 (⟨"WingHouseModel", "curve", "(IIII)I"⟩, prog_14_method_70_code, 14, (Option.some Jvm.ClassFile.FieldType.int), 5, 4, 96, 0, 0, false, 12)))
 (cond (Nat.ble k 219)
 (cond (Nat.ble k 218)
 (⟨"WingHouseModel", "lift", "(I)J"⟩, prog_14_method_71_code, 2, (Option.some Jvm.ClassFile.FieldType.long), 2, 2, 42, 0, 0, false, 12)
 (⟨"WingHouseModel", "trimsOf", "(III)Z"⟩, prog_14_method_72_code, 8, (Option.some Jvm.ClassFile.FieldType.boolean), 4, 4, 96, 0, 0, false, 12))
 (cond (Nat.ble k 220)
 (⟨"WingHouseModel", "trims", "(III)I"⟩, prog_14_method_73_code, 4, (Option.some Jvm.ClassFile.FieldType.int), 4, 5, 123, 0, 0, false, 12)
 (⟨"WingHouseModel", "trim", "(IIII)I"⟩, prog_14_method_74_code, 5, (Option.some Jvm.ClassFile.FieldType.int), 5, 5, 123, 0, 0, false, 12))))
 (cond (Nat.ble k 225)
 (cond (Nat.ble k 223)
 (cond (Nat.ble k 222)
 (⟨"WingHouseModel", "stays", "(IIII)I"⟩, prog_14_method_75_code, 5, (Option.some Jvm.ClassFile.FieldType.int), 5, 5, 123, 0, 0, false, 12)
 (⟨"WingHouseModel", "fold", "(II)I"⟩, prog_14_method_76_code, 6, (Option.some Jvm.ClassFile.FieldType.int), 3, 4, 96, 0, 0, false, 12))
 (cond (Nat.ble k 224)
 (⟨"WingHouseModel", "holdsTo", "(J)J"⟩, prog_14_method_77_code, 2, (Option.some Jvm.ClassFile.FieldType.long), 1, 0, 0, 0, 0, true, 12)
 (⟨"WingHouseModel", "shakesAt", "(III)I"⟩, prog_14_method_78_code, 27, (Option.some Jvm.ClassFile.FieldType.int), 4, 4, 96, 0, 0, false, 12)))
 (cond (Nat.ble k 227)
 (cond (Nat.ble k 226)
 (⟨"WingHouseModel", "shakes", "(III)I"⟩, prog_14_method_79_code, 5, (Option.some Jvm.ClassFile.FieldType.int), 4, 5, 142, 0, 0, false, 12)
 (⟨"WingHouseModel", "shake", "(II)I"⟩, prog_14_method_80_code, 5, (Option.some Jvm.ClassFile.FieldType.int), 3, 5, 142, 0, 0, false, 12))
 (cond (Nat.ble k 228)
 (⟨"WingHouseModel", "bits", "(I)I"⟩, prog_14_method_81_code, 3, (Option.some Jvm.ClassFile.FieldType.int), 1, 0, 0, 0, 0, true, 12)
 (cond (Nat.ble k 229)
 (⟨"WingHouseModel", "best", "(IIIII)J"⟩, prog_14_method_82_code, 18, (Option.some Jvm.ClassFile.FieldType.long), 6, 4, 98, 0, 0, false, 12)
 (⟨"WingHouseModel", "twist", "(I)I"⟩, prog_14_method_83_code, 2, (Option.some Jvm.ClassFile.FieldType.int), 2, 1, 22, 0, 0, false, 12)))))))
 (cond (Nat.ble k 247)
 (cond (Nat.ble k 238)
 (cond (Nat.ble k 234)
 (cond (Nat.ble k 232)
 (cond (Nat.ble k 231)
 (⟨"WingHouseModel", "run", "(IIIII)I"⟩, prog_14_method_84_code, 6, (Option.some Jvm.ClassFile.FieldType.int), 6, 2, 42, 0, 0, false, 12)
 (⟨"WingHouseModel", "isRun", "(I)Z"⟩, prog_14_method_85_code, 2, (Option.some Jvm.ClassFile.FieldType.boolean), 2, 1, 22, 0, 0, false, 12))
 (cond (Nat.ble k 233)
 (⟨"WingHouseModel", "annul", "(I)I"⟩, prog_14_method_86_code, 2, (Option.some Jvm.ClassFile.FieldType.int), 2, 2, 43, 0, 0, false, 12)
 (⟨"WingHouseModel", "rightOf", "(I)I"⟩, prog_14_method_87_code, 2, (Option.some Jvm.ClassFile.FieldType.int), 2, 0, 0, 0, 0, false, 12)))
 (cond (Nat.ble k 236)
 (cond (Nat.ble k 235)
 (⟨"WingHouseModel", "right", "(I)I"⟩, prog_14_method_88_code, 2, (Option.some Jvm.ClassFile.FieldType.int), 2, 2, 43, 0, 0, false, 12)
 (⟨"WingHouseModel", "flies", "(IIII)Z"⟩, prog_14_method_89_code, 5, (Option.some Jvm.ClassFile.FieldType.boolean), 5, 4, 96, 0, 0, false, 12))
 (cond (Nat.ble k 237)
 (⟨"WingHouseModel", "isFit", "(II)Z"⟩, prog_14_method_90_code, 7, (Option.some Jvm.ClassFile.FieldType.boolean), 3, 5, 120, 0, 0, false, 12)
 (⟨"WingHouseModel", "fits", "(II)I"⟩, prog_14_method_91_code, 3, (Option.some Jvm.ClassFile.FieldType.int), 3, 6, 146, 0, 0, false, 12))))
 (cond (Nat.ble k 242)
 (cond (Nat.ble k 240)
 (cond (Nat.ble k 239)
 (⟨"WingHouseModel", "isVoid", "(II)Z"⟩, prog_14_method_92_code, 4, (Option.some Jvm.ClassFile.FieldType.boolean), 3, 0, 0, 0, 0, false, 12)
 (⟨"WingHouseModel", "outBy", "(II)I"⟩, prog_14_method_93_code, 4, (Option.some Jvm.ClassFile.FieldType.int), 3, 6, 146, 0, 0, false, 12))
 (cond (Nat.ble k 241)
 (⟨"WingHouseModel", "out", "(II)I"⟩, prog_14_method_94_code, 4, (Option.some Jvm.ClassFile.FieldType.int), 3, 7, 169, 0, 0, false, 12)
 (⟨"WingHouseModel", "next", "(II)I"⟩, prog_14_method_95_code, 16, (Option.some Jvm.ClassFile.FieldType.int), 3, 7, 169, 0, 0, false, 12)))
 (cond (Nat.ble k 244)
 (cond (Nat.ble k 243)
 (⟨"WingHouseModel", "count", "(I)I"⟩, prog_14_method_96_code, 3, (Option.some Jvm.ClassFile.FieldType.int), 2, 2, 43, 0, 0, false, 12)
 (⟨"java/lang/Integer", "bitCount", "(I)I"⟩, prog_15_method_49_code, 1, (Option.some Jvm.ClassFile.FieldType.int), 1, 0, 0, 0, 0, true, 14))
 (cond (Nat.ble k 245)
 (⟨"java/lang/Math", "abs", "(I)I"⟩, prog_16_method_59_code, 1, (Option.some Jvm.ClassFile.FieldType.int), 1, 0, 0, 0, 0, true, 15)
 (cond (Nat.ble k 246)
 (⟨"java/lang/Math", "abs", "(J)J"⟩, prog_16_method_61_code, 2, (Option.some Jvm.ClassFile.FieldType.long), 1, 0, 0, 0, 0, true, 15)
 (⟨"java/lang/Math", "max", "(II)I"⟩, prog_16_method_65_code, 2, (Option.some Jvm.ClassFile.FieldType.int), 2, 0, 0, 0, 0, true, 15))))))
 (cond (Nat.ble k 255)
 (cond (Nat.ble k 251)
 (cond (Nat.ble k 249)
 (cond (Nat.ble k 248)
 (⟨"java/lang/Math", "max", "(JJ)J"⟩, prog_16_method_66_code, 4, (Option.some Jvm.ClassFile.FieldType.long), 2, 0, 0, 0, 0, true, 15)
 (⟨"java/lang/Math", "min", "(II)I"⟩, prog_16_method_69_code, 2, (Option.some Jvm.ClassFile.FieldType.int), 2, 0, 0, 0, 0, true, 15))
 (cond (Nat.ble k 250)
 (⟨"java/lang/Math", "min", "(JJ)J"⟩, prog_16_method_70_code, 4, (Option.some Jvm.ClassFile.FieldType.long), 2, 0, 0, 0, 0, true, 15)
 (⟨"java/lang/String", "length", "()I"⟩, prog_17_method_54_code, 1, (Option.some Jvm.ClassFile.FieldType.int), 1, 1, 20, 0, 0, false, 16)))
 (cond (Nat.ble k 253)
 (cond (Nat.ble k 252)
 (⟨"java/lang/String", "charAt", "(I)C"⟩, prog_17_method_56_code, 2, (Option.some Jvm.ClassFile.FieldType.char), 2, 4, 85, 0, 0, false, 16)
 (⟨"java/lang/String", "coder", "()B"⟩, prog_17_method_152_code, 1, (Option.some Jvm.ClassFile.FieldType.byte), 1, 0, 0, 0, 0, false, 16))
 (cond (Nat.ble k 254)
 (⟨"java/lang/String", "isLatin1", "()Z"⟩, prog_17_method_154_code, 1, (Option.some Jvm.ClassFile.FieldType.boolean), 1, 0, 0, 0, 0, false, 16)
 (⟨"java/lang/String", "checkIndex", "(II)V"⟩, prog_17_method_155_code, 2, (Option.none : Option Jvm.ClassFile.FieldType), 2, 1, 22, 0, 0, true, 16))))
 (cond (Nat.ble k 259)
 (cond (Nat.ble k 257)
 (cond (Nat.ble k 256)
 (⟨"java/lang/StringLatin1", "charAt", "([BI)C"⟩, prog_18_method_2_code, 2, (Option.some Jvm.ClassFile.FieldType.char), 2, 2, 43, 0, 0, true, 17)
 (⟨"java/lang/StringUTF16", "getChar", "([BI)C"⟩, prog_19_method_5_code, 2, (Option.some Jvm.ClassFile.FieldType.char), 2, 1, 20, 0, 0, true, 18))
 (cond (Nat.ble k 258)
 (⟨"java/lang/StringUTF16", "length", "([B)I"⟩, prog_19_method_6_code, 1, (Option.some Jvm.ClassFile.FieldType.int), 1, 0, 0, 0, 0, true, 18)
 (⟨"java/lang/StringUTF16", "charAt", "([BI)C"⟩, prog_19_method_83_code, 2, (Option.some Jvm.ClassFile.FieldType.char), 2, 3, 64, 0, 0, true, 18)))
 (cond (Nat.ble k 261)
 (cond (Nat.ble k 260)
 (⟨"java/lang/StringUTF16", "checkIndex", "(I[B)V"⟩, prog_19_method_91_code, 2, (Option.none : Option Jvm.ClassFile.FieldType), 2, 2, 43, 0, 0, true, 18)
 (⟨"java/util/Arrays", "fill", "([JJ)V"⟩, prog_21_method_101_code, 5, (Option.none : Option Jvm.ClassFile.FieldType), 2, 0, 0, 0, 0, true, 19))
 (cond (Nat.ble k 262)
 (⟨"java/util/Arrays", "fill", "([II)V"⟩, prog_21_method_103_code, 4, (Option.none : Option Jvm.ClassFile.FieldType), 2, 0, 0, 0, 0, true, 19)
 (cond (Nat.ble k 263)
 (⟨"jdk/internal/util/Preconditions", "checkIndex", "(IILjava/util/function/BiFunction;)I"⟩, prog_22_method_11_code, 3, (Option.some Jvm.ClassFile.FieldType.int), 3, 0, 0, 0, 0, true, 20)
 (⟨"WingHouseLaw", "law", "([I)Z"⟩, code, 4, (Option.some Jvm.ClassFile.FieldType.boolean), 1, 11, 460, 600000, 7302250, true, 13))))))))))
