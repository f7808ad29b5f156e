theorem zk_48_0 : okP 48 0 30 = true := by decide +kernel
theorem ok_Reader_waitFor : okM 48 := okM.of fun pc h => by
  have h : pc < 30 := h
  exact okP.at zk_48_0 (by omega) (by omega)
theorem zk_49_0 : okP 49 0 53 = true := by decide +kernel
theorem ok_Reader_release : okM 49 := okM.of fun pc h => by
  have h : pc < 53 := h
  exact okP.at zk_49_0 (by omega) (by omega)
theorem zk_50_0 : okP 50 0 70 = true := by decide +kernel
theorem ok_Runs_init : okM 50 := okM.of fun pc h => by
  have h : pc < 70 := h
  exact okP.at zk_50_0 (by omega) (by omega)
theorem zk_51_0 : okP 51 0 90 = true := by decide +kernel
theorem ok_Runs_addRun : okM 51 := okM.of fun pc h => by
  have h : pc < 90 := h
  exact okP.at zk_51_0 (by omega) (by omega)
theorem zk_52_0 : okP 52 0 38 = true := by decide +kernel
theorem ok_Runs_addVoid : okM 52 := okM.of fun pc h => by
  have h : pc < 38 := h
  exact okP.at zk_52_0 (by omega) (by omega)
theorem zk_53_0 : okP 53 0 34 = true := by decide +kernel
theorem ok_Runs_isRun : okM 53 := okM.of fun pc h => by
  have h : pc < 34 := h
  exact okP.at zk_53_0 (by omega) (by omega)
theorem zk_54_0 : okP 54 0 40 = true := by decide +kernel
theorem ok_Runs_putRight : okM 54 := okM.of fun pc h => by
  have h : pc < 40 := h
  exact okP.at zk_54_0 (by omega) (by omega)
theorem zk_55_0 : okP 55 0 90 = true := by decide +kernel
theorem zk_55_90 : okP 55 90 15 = true := by decide +kernel
theorem ok_Runs_isFit : okM 55 := okM.of fun pc h => by
  have h : pc < 105 := h
  rcases Nat.lt_or_ge pc 90 with h0 | h0
  · exact okP.at zk_55_0 (by omega) (by omega)
  exact okP.at zk_55_90 (by omega) (by omega)
theorem zk_56_0 : okP 56 0 35 = true := by decide +kernel
theorem ok_Runs_isVoid : okM 56 := okM.of fun pc h => by
  have h : pc < 35 := h
  exact okP.at zk_56_0 (by omega) (by omega)
theorem zk_57_0 : okP 57 0 52 = true := by decide +kernel
theorem ok_Runs_outBy : okM 57 := okM.of fun pc h => by
  have h : pc < 52 := h
  exact okP.at zk_57_0 (by omega) (by omega)
theorem zk_58_0 : okP 58 0 81 = true := by decide +kernel
theorem ok_Runs_nextPlace : okM 58 := okM.of fun pc h => by
  have h : pc < 81 := h
  exact okP.at zk_58_0 (by omega) (by omega)
theorem zk_59_0 : okP 59 0 90 = true := by decide +kernel
theorem zk_59_90 : okP 59 90 62 = true := by decide +kernel
theorem ok_Runs_spreadAt : okM 59 := okM.of fun pc h => by
  have h : pc < 152 := h
  rcases Nat.lt_or_ge pc 90 with h0 | h0
  · exact okP.at zk_59_0 (by omega) (by omega)
  exact okP.at zk_59_90 (by omega) (by omega)
theorem zk_60_0 : okP 60 0 71 = true := by decide +kernel
theorem ok_Solver_init : okM 60 := okM.of fun pc h => by
  have h : pc < 71 := h
  exact okP.at zk_60_0 (by omega) (by omega)
theorem zk_61_0 : okP 61 0 90 = true := by decide +kernel
theorem zk_61_90 : okP 61 90 49 = true := by decide +kernel
theorem ok_Solver_setOut : okM 61 := okM.of fun pc h => by
  have h : pc < 139 := h
  rcases Nat.lt_or_ge pc 90 with h0 | h0
  · exact okP.at zk_61_0 (by omega) (by omega)
  exact okP.at zk_61_90 (by omega) (by omega)
theorem zk_62_0 : okP 62 0 36 = true := by decide +kernel
theorem ok_Solver_turnStrip : okM 62 := okM.of fun pc h => by
  have h : pc < 36 := h
  exact okP.at zk_62_0 (by omega) (by omega)
theorem zk_63_0 : okP 63 0 90 = true := by decide +kernel
theorem zk_63_90 : okP 63 90 11 = true := by decide +kernel
theorem ok_Solver_comeBehind : okM 63 := okM.of fun pc h => by
  have h : pc < 101 := h
  rcases Nat.lt_or_ge pc 90 with h0 | h0
  · exact okP.at zk_63_0 (by omega) (by omega)
  exact okP.at zk_63_90 (by omega) (by omega)
theorem zk_64_0 : okP 64 0 26 = true := by decide +kernel
theorem ok_Solver_settle : okM 64 := okM.of fun pc h => by
  have h : pc < 26 := h
  exact okP.at zk_64_0 (by omega) (by omega)
theorem zk_65_0 : okP 65 0 90 = true := by decide +kernel
theorem zk_65_90 : okP 65 90 90 = true := by decide +kernel
theorem zk_65_180 : okP 65 180 47 = true := by decide +kernel
theorem ok_Solver_goRound : okM 65 := okM.of fun pc h => by
  have h : pc < 227 := h
  rcases Nat.lt_or_ge pc 90 with h0 | h0
  · exact okP.at zk_65_0 (by omega) (by omega)
  rcases Nat.lt_or_ge pc 180 with h90 | h90
  · exact okP.at zk_65_90 (by omega) (by omega)
  exact okP.at zk_65_180 (by omega) (by omega)
theorem zk_66_0 : okP 66 0 90 = true := by decide +kernel
theorem zk_66_90 : okP 66 90 90 = true := by decide +kernel
theorem zk_66_180 : okP 66 180 9 = true := by decide +kernel
theorem ok_Solver_tellDown : okM 66 := okM.of fun pc h => by
  have h : pc < 189 := h
  rcases Nat.lt_or_ge pc 90 with h0 | h0
  · exact okP.at zk_66_0 (by omega) (by omega)
  rcases Nat.lt_or_ge pc 180 with h90 | h90
  · exact okP.at zk_66_90 (by omega) (by omega)
  exact okP.at zk_66_180 (by omega) (by omega)
theorem zk_67_0 : okP 67 0 90 = true := by decide +kernel
theorem zk_67_90 : okP 67 90 26 = true := by decide +kernel
theorem ok_Solver_liftByGround : okM 67 := okM.of fun pc h => by
  have h : pc < 116 := h
  rcases Nat.lt_or_ge pc 90 with h0 | h0
  · exact okP.at zk_67_0 (by omega) (by omega)
  exact okP.at zk_67_90 (by omega) (by omega)
theorem zk_68_0 : okP 68 0 90 = true := by decide +kernel
theorem zk_68_90 : okP 68 90 24 = true := by decide +kernel
theorem ok_Solver_tellBend : okM 68 := okM.of fun pc h => by
  have h : pc < 114 := h
  rcases Nat.lt_or_ge pc 90 with h0 | h0
  · exact okP.at zk_68_0 (by omega) (by omega)
  exact okP.at zk_68_90 (by omega) (by omega)
theorem zk_69_0 : okP 69 0 38 = true := by decide +kernel
theorem ok_Solver_restLift : okM 69 := okM.of fun pc h => by
  have h : pc < 38 := h
  exact okP.at zk_69_0 (by omega) (by omega)
theorem zk_70_0 : okP 70 0 90 = true := by decide +kernel
theorem zk_70_90 : okP 70 90 54 = true := by decide +kernel
theorem ok_Text_init : okM 70 := okM.of fun pc h => by
  have h : pc < 144 := h
  rcases Nat.lt_or_ge pc 90 with h0 | h0
  · exact okP.at zk_70_0 (by omega) (by omega)
  exact okP.at zk_70_90 (by omega) (by omega)
theorem zk_71_0 : okP 71 0 82 = true := by decide +kernel
theorem ok_Text_clear : okM 71 := okM.of fun pc h => by
  have h : pc < 82 := h
  exact okP.at zk_71_0 (by omega) (by omega)
theorem zk_72_0 : okP 72 0 31 = true := by decide +kernel
theorem ok_Text_nameIndex : okM 72 := okM.of fun pc h => by
  have h : pc < 31 := h
  exact okP.at zk_72_0 (by omega) (by omega)
theorem zk_73_0 : okP 73 0 42 = true := by decide +kernel
theorem ok_Text_numberNamed : okM 73 := okM.of fun pc h => by
  have h : pc < 42 := h
  exact okP.at zk_73_0 (by omega) (by omega)
theorem zk_74_0 : okP 74 0 51 = true := by decide +kernel
theorem ok_Text_addName : okM 74 := okM.of fun pc h => by
  have h : pc < 51 := h
  exact okP.at zk_74_0 (by omega) (by omega)
theorem zk_75_0 : okP 75 0 28 = true := by decide +kernel
theorem ok_Text_wingNumbered : okM 75 := okM.of fun pc h => by
  have h : pc < 28 := h
  exact okP.at zk_75_0 (by omega) (by omega)
theorem zk_76_0 : okP 76 0 25 = true := by decide +kernel
theorem ok_Text_lawValue : okM 76 := okM.of fun pc h => by
  have h : pc < 25 := h
  exact okP.at zk_76_0 (by omega) (by omega)
theorem zk_77_0 : okP 77 0 90 = true := by decide +kernel
theorem zk_77_90 : okP 77 90 15 = true := by decide +kernel
theorem ok_Text_dragNow : okM 77 := okM.of fun pc h => by
  have h : pc < 105 := h
  rcases Nat.lt_or_ge pc 90 with h0 | h0
  · exact okP.at zk_77_0 (by omega) (by omega)
  exact okP.at zk_77_90 (by omega) (by omega)
theorem zk_78_0 : okP 78 0 90 = true := by decide +kernel
theorem zk_78_90 : okP 78 90 78 = true := by decide +kernel
theorem ok_Text_firstBarred : okM 78 := okM.of fun pc h => by
  have h : pc < 168 := h
  rcases Nat.lt_or_ge pc 90 with h0 | h0
  · exact okP.at zk_78_0 (by omega) (by omega)
  exact okP.at zk_78_90 (by omega) (by omega)
theorem zk_79_0 : okP 79 0 87 = true := by decide +kernel
theorem ok_Text_countOf : okM 79 := okM.of fun pc h => by
  have h : pc < 87 := h
  exact okP.at zk_79_0 (by omega) (by omega)
theorem zk_80_0 : okP 80 0 90 = true := by decide +kernel
theorem zk_80_90 : okP 80 90 36 = true := by decide +kernel
theorem ok_Tokens_init : okM 80 := okM.of fun pc h => by
  have h : pc < 126 := h
  rcases Nat.lt_or_ge pc 90 with h0 | h0
  · exact okP.at zk_80_0 (by omega) (by omega)
  exact okP.at zk_80_90 (by omega) (by omega)
theorem zk_81_0 : okP 81 0 14 = true := by decide +kernel
theorem ok_Tokens_withLetter : okM 81 := okM.of fun pc h => by
  have h : pc < 14 := h
  exact okP.at zk_81_0 (by omega) (by omega)
theorem zk_82_0 : okP 82 0 30 = true := by decide +kernel
theorem ok_Tokens_isBlank : okM 82 := okM.of fun pc h => by
  have h : pc < 30 := h
  exact okP.at zk_82_0 (by omega) (by omega)
theorem zk_83_0 : okP 83 0 18 = true := by decide +kernel
theorem ok_Tokens_isLetter : okM 83 := okM.of fun pc h => by
  have h : pc < 18 := h
  exact okP.at zk_83_0 (by omega) (by omega)
theorem zk_84_0 : okP 84 0 18 = true := by decide +kernel
theorem ok_Tokens_isDigit : okM 84 := okM.of fun pc h => by
  have h : pc < 18 := h
  exact okP.at zk_84_0 (by omega) (by omega)
theorem zk_85_0 : okP 85 0 17 = true := by decide +kernel
theorem ok_Tokens_isComparison : okM 85 := okM.of fun pc h => by
  have h : pc < 17 := h
  exact okP.at zk_85_0 (by omega) (by omega)
theorem zk_86_0 : okP 86 0 20 = true := by decide +kernel
theorem ok_Tokens_isVariable : okM 86 := okM.of fun pc h => by
  have h : pc < 20 := h
  exact okP.at zk_86_0 (by omega) (by omega)
theorem zk_87_0 : okP 87 0 70 = true := by decide +kernel
theorem ok_Tokens_scanAll : okM 87 := okM.of fun pc h => by
  have h : pc < 70 := h
  exact okP.at zk_87_0 (by omega) (by omega)
theorem zk_88_0 : okP 88 0 30 = true := by decide +kernel
theorem ok_Tokens_kindOf : okM 88 := okM.of fun pc h => by
  have h : pc < 30 := h
  exact okP.at zk_88_0 (by omega) (by omega)
theorem zk_89_0 : okP 89 0 33 = true := by decide +kernel
theorem ok_Tokens_fromOf : okM 89 := okM.of fun pc h => by
  have h : pc < 33 := h
  exact okP.at zk_89_0 (by omega) (by omega)
theorem zk_90_0 : okP 90 0 30 = true := by decide +kernel
theorem ok_Tokens_valueOf : okM 90 := okM.of fun pc h => by
  have h : pc < 30 := h
  exact okP.at zk_90_0 (by omega) (by omega)
theorem zk_91_0 : okP 91 0 43 = true := by decide +kernel
theorem ok_Tokens_byteAt : okM 91 := okM.of fun pc h => by
  have h : pc < 43 := h
  exact okP.at zk_91_0 (by omega) (by omega)
theorem zk_92_0 : okP 92 0 90 = true := by decide +kernel
theorem zk_92_90 : okP 92 90 55 = true := by decide +kernel
theorem ok_Tokens_scanOne : okM 92 := okM.of fun pc h => by
  have h : pc < 145 := h
  rcases Nat.lt_or_ge pc 90 with h0 | h0
  · exact okP.at zk_92_0 (by omega) (by omega)
  exact okP.at zk_92_90 (by omega) (by omega)
theorem zk_93_0 : okP 93 0 90 = true := by decide +kernel
theorem zk_93_90 : okP 93 90 47 = true := by decide +kernel
theorem ok_Tokens_wordFrom : okM 93 := okM.of fun pc h => by
  have h : pc < 137 := h
  rcases Nat.lt_or_ge pc 90 with h0 | h0
  · exact okP.at zk_93_0 (by omega) (by omega)
  exact okP.at zk_93_90 (by omega) (by omega)
theorem zk_94_0 : okP 94 0 90 = true := by decide +kernel
theorem zk_94_90 : okP 94 90 9 = true := by decide +kernel
theorem ok_Tokens_numberFrom : okM 94 := okM.of fun pc h => by
  have h : pc < 99 := h
  rcases Nat.lt_or_ge pc 90 with h0 | h0
  · exact okP.at zk_94_0 (by omega) (by omega)
  exact okP.at zk_94_90 (by omega) (by omega)
theorem zk_95_0 : okP 95 0 90 = true := by decide +kernel
theorem zk_95_90 : okP 95 90 90 = true := by decide +kernel
theorem zk_95_180 : okP 95 180 44 = true := by decide +kernel
theorem ok_Tokens_signFrom : okM 95 := okM.of fun pc h => by
  have h : pc < 224 := h
  rcases Nat.lt_or_ge pc 90 with h0 | h0
  · exact okP.at zk_95_0 (by omega) (by omega)
  rcases Nat.lt_or_ge pc 180 with h90 | h90
  · exact okP.at zk_95_90 (by omega) (by omega)
  exact okP.at zk_95_180 (by omega) (by omega)
