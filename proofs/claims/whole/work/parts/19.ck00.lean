theorem zk_0_0 : okP 0 0 67 = true := by decide +kernel
theorem ok_Bars_init : okM 0 := okM.of fun pc h => by
  have h : pc < 67 := h
  exact okP.at zk_0_0 (by omega) (by omega)
theorem zk_1_0 : okP 1 0 11 = true := by decide +kernel
theorem ok_Bars_empty : okM 1 := okM.of fun pc h => by
  have h : pc < 11 := h
  exact okP.at zk_1_0 (by omega) (by omega)
theorem zk_2_0 : okP 2 0 43 = true := by decide +kernel
theorem ok_Bars_addStep : okM 2 := okM.of fun pc h => by
  have h : pc < 43 := h
  exact okP.at zk_2_0 (by omega) (by omega)
theorem zk_3_0 : okP 3 0 33 = true := by decide +kernel
theorem ok_Bars_closeBar : okM 3 := okM.of fun pc h => by
  have h : pc < 33 := h
  exact okP.at zk_3_0 (by omega) (by omega)
theorem zk_4_0 : okP 4 0 90 = true := by decide +kernel
theorem zk_4_90 : okP 4 90 90 = true := by decide +kernel
theorem zk_4_180 : okP 4 180 60 = true := by decide +kernel
theorem ok_Bars_holds : okM 4 := okM.of fun pc h => by
  have h : pc < 240 := h
  rcases Nat.lt_or_ge pc 90 with h0 | h0
  · exact okP.at zk_4_0 (by omega) (by omega)
  rcases Nat.lt_or_ge pc 180 with h90 | h90
  · exact okP.at zk_4_90 (by omega) (by omega)
  exact okP.at zk_4_180 (by omega) (by omega)
theorem zk_5_0 : okP 5 0 33 = true := by decide +kernel
theorem ok_Bars_push : okM 5 := okM.of fun pc h => by
  have h : pc < 33 := h
  exact okP.at zk_5_0 (by omega) (by omega)
theorem zk_6_0 : okP 6 0 42 = true := by decide +kernel
theorem ok_Bars_pop : okM 6 := okM.of fun pc h => by
  have h : pc < 42 := h
  exact okP.at zk_6_0 (by omega) (by omega)
theorem zk_7_0 : okP 7 0 90 = true := by decide +kernel
theorem zk_7_90 : okP 7 90 2 = true := by decide +kernel
theorem ok_Bars_compares : okM 7 := okM.of fun pc h => by
  have h : pc < 92 := h
  rcases Nat.lt_or_ge pc 90 with h0 | h0
  · exact okP.at zk_7_0 (by omega) (by omega)
  exact okP.at zk_7_90 (by omega) (by omega)
theorem zk_8_0 : okP 8 0 90 = true := by decide +kernel
theorem zk_8_90 : okP 8 90 16 = true := by decide +kernel
theorem ok_Bars_reckon : okM 8 := okM.of fun pc h => by
  have h : pc < 106 := h
  rcases Nat.lt_or_ge pc 90 with h0 | h0
  · exact okP.at zk_8_0 (by omega) (by omega)
  exact okP.at zk_8_90 (by omega) (by omega)
theorem zk_9_0 : okP 9 0 71 = true := by decide +kernel
theorem ok_Best_init : okM 9 := okM.of fun pc h => by
  have h : pc < 71 := h
  exact okP.at zk_9_0 (by omega) (by omega)
theorem zk_10_0 : okP 10 0 90 = true := by decide +kernel
theorem zk_10_90 : okP 10 90 9 = true := by decide +kernel
theorem ok_Best_search : okM 10 := okM.of fun pc h => by
  have h : pc < 99 := h
  rcases Nat.lt_or_ge pc 90 with h0 | h0
  · exact okP.at zk_10_0 (by omega) (by omega)
  exact okP.at zk_10_90 (by omega) (by omega)
theorem zk_11_0 : okP 11 0 90 = true := by decide +kernel
theorem zk_11_90 : okP 11 90 37 = true := by decide +kernel
theorem ok_Best_tellStrips : okM 11 := okM.of fun pc h => by
  have h : pc < 127 := h
  rcases Nat.lt_or_ge pc 90 with h0 | h0
  · exact okP.at zk_11_0 (by omega) (by omega)
  exact okP.at zk_11_90 (by omega) (by omega)
theorem zk_12_0 : okP 12 0 90 = true := by decide +kernel
theorem zk_12_90 : okP 12 90 90 = true := by decide +kernel
theorem zk_12_180 : okP 12 180 19 = true := by decide +kernel
theorem ok_Best_judge : okM 12 := okM.of fun pc h => by
  have h : pc < 199 := h
  rcases Nat.lt_or_ge pc 90 with h0 | h0
  · exact okP.at zk_12_0 (by omega) (by omega)
  rcases Nat.lt_or_ge pc 180 with h90 | h90
  · exact okP.at zk_12_90 (by omega) (by omega)
  exact okP.at zk_12_180 (by omega) (by omega)
theorem zk_13_0 : okP 13 0 63 = true := by decide +kernel
theorem ok_Best_stepOn : okM 13 := okM.of fun pc h => by
  have h : pc < 63 := h
  exact okP.at zk_13_0 (by omega) (by omega)
theorem zk_14_0 : okP 14 0 23 = true := by decide +kernel
theorem ok_Best_twistOf : okM 14 := okM.of fun pc h => by
  have h : pc < 23 := h
  exact okP.at zk_14_0 (by omega) (by omega)
theorem zk_15_0 : okP 15 0 52 = true := by decide +kernel
theorem ok_Flow_init : okM 15 := okM.of fun pc h => by
  have h : pc < 52 := h
  exact okP.at zk_15_0 (by omega) (by omega)
theorem zk_16_0 : okP 16 0 29 = true := by decide +kernel
theorem ok_Flow_rest : okM 16 := okM.of fun pc h => by
  have h : pc < 29 := h
  exact okP.at zk_16_0 (by omega) (by omega)
theorem zk_17_0 : okP 17 0 16 = true := by decide +kernel
theorem ok_Flow_startFrom : okM 17 := okM.of fun pc h => by
  have h : pc < 16 := h
  exact okP.at zk_17_0 (by omega) (by omega)
theorem zk_18_0 : okP 18 0 82 = true := by decide +kernel
theorem ok_Flow_keep : okM 18 := okM.of fun pc h => by
  have h : pc < 82 := h
  exact okP.at zk_18_0 (by omega) (by omega)
theorem zk_19_0 : okP 19 0 55 = true := by decide +kernel
theorem ok_Flow_edgeAt : okM 19 := okM.of fun pc h => by
  have h : pc < 55 := h
  exact okP.at zk_19_0 (by omega) (by omega)
theorem zk_20_0 : okP 20 0 45 = true := by decide +kernel
theorem ok_Flow_liftNow : okM 20 := okM.of fun pc h => by
  have h : pc < 45 := h
  exact okP.at zk_20_0 (by omega) (by omega)
theorem zk_21_0 : okP 21 0 57 = true := by decide +kernel
theorem ok_Flow_turnNow : okM 21 := okM.of fun pc h => by
  have h : pc < 57 := h
  exact okP.at zk_21_0 (by omega) (by omega)
theorem zk_22_0 : okP 22 0 26 = true := by decide +kernel
theorem ok_Law_init : okM 22 := okM.of fun pc h => by
  have h : pc < 26 := h
  exact okP.at zk_22_0 (by omega) (by omega)
theorem zk_23_0 : okP 23 0 38 = true := by decide +kernel
theorem ok_Law_isAboveLast : okM 23 := okM.of fun pc h => by
  have h : pc < 38 := h
  exact okP.at zk_23_0 (by omega) (by omega)
theorem zk_24_0 : okP 24 0 40 = true := by decide +kernel
theorem ok_Law_addPoint : okM 24 := okM.of fun pc h => by
  have h : pc < 40 := h
  exact okP.at zk_24_0 (by omega) (by omega)
theorem zk_25_0 : okP 25 0 90 = true := by decide +kernel
theorem zk_25_90 : okP 25 90 55 = true := by decide +kernel
theorem ok_Law_valueAt : okM 25 := okM.of fun pc h => by
  have h : pc < 145 := h
  rcases Nat.lt_or_ge pc 90 with h0 | h0
  · exact okP.at zk_25_0 (by omega) (by omega)
  exact okP.at zk_25_90 (by omega) (by omega)
theorem zk_26_0 : okP 26 0 64 = true := by decide +kernel
theorem ok_Reader_init : okM 26 := okM.of fun pc h => by
  have h : pc < 64 := h
  exact okP.at zk_26_0 (by omega) (by omega)
theorem zk_27_0 : okP 27 0 90 = true := by decide +kernel
theorem zk_27_90 : okP 27 90 84 = true := by decide +kernel
theorem ok_Reader_parse : okM 27 := okM.of fun pc h => by
  have h : pc < 174 := h
  rcases Nat.lt_or_ge pc 90 with h0 | h0
  · exact okP.at zk_27_0 (by omega) (by omega)
  exact okP.at zk_27_90 (by omega) (by omega)
theorem zk_28_0 : okP 28 0 42 = true := by decide +kernel
theorem ok_Reader_placeOfFault : okM 28 := okM.of fun pc h => by
  have h : pc < 42 := h
  exact okP.at zk_28_0 (by omega) (by omega)
theorem zk_29_0 : okP 29 0 21 = true := by decide +kernel
theorem ok_Reader_stop : okM 29 := okM.of fun pc h => by
  have h : pc < 21 := h
  exact okP.at zk_29_0 (by omega) (by omega)
theorem zk_30_0 : okP 30 0 21 = true := by decide +kernel
theorem ok_Reader_blame : okM 30 := okM.of fun pc h => by
  have h : pc < 21 := h
  exact okP.at zk_30_0 (by omega) (by omega)
theorem zk_31_0 : okP 31 0 76 = true := by decide +kernel
theorem ok_Reader_take : okM 31 := okM.of fun pc h => by
  have h : pc < 76 := h
  exact okP.at zk_31_0 (by omega) (by omega)
theorem zk_32_0 : okP 32 0 35 = true := by decide +kernel
theorem ok_Reader_number : okM 32 := okM.of fun pc h => by
  have h : pc < 35 := h
  exact okP.at zk_32_0 (by omega) (by omega)
theorem zk_33_0 : okP 33 0 43 = true := by decide +kernel
theorem ok_Reader_signed : okM 33 := okM.of fun pc h => by
  have h : pc < 43 := h
  exact okP.at zk_33_0 (by omega) (by omega)
theorem zk_34_0 : okP 34 0 44 = true := by decide +kernel
theorem ok_Reader_named : okM 34 := okM.of fun pc h => by
  have h : pc < 44 := h
  exact okP.at zk_34_0 (by omega) (by omega)
theorem zk_35_0 : okP 35 0 33 = true := by decide +kernel
theorem ok_Reader_known : okM 35 := okM.of fun pc h => by
  have h : pc < 33 := h
  exact okP.at zk_35_0 (by omega) (by omega)
theorem zk_36_0 : okP 36 0 90 = true := by decide +kernel
theorem zk_36_90 : okP 36 90 51 = true := by decide +kernel
theorem ok_Reader_tellLaw : okM 36 := okM.of fun pc h => by
  have h : pc < 141 := h
  rcases Nat.lt_or_ge pc 90 with h0 | h0
  · exact okP.at zk_36_0 (by omega) (by omega)
  exact okP.at zk_36_90 (by omega) (by omega)
theorem zk_37_0 : okP 37 0 35 = true := by decide +kernel
theorem ok_Reader_tellPoint : okM 37 := okM.of fun pc h => by
  have h : pc < 35 := h
  exact okP.at zk_37_0 (by omega) (by omega)
theorem zk_38_0 : okP 38 0 66 = true := by decide +kernel
theorem ok_Reader_tellHinge : okM 38 := okM.of fun pc h => by
  have h : pc < 66 := h
  exact okP.at zk_38_0 (by omega) (by omega)
theorem zk_39_0 : okP 39 0 90 = true := by decide +kernel
theorem zk_39_90 : okP 39 90 84 = true := by decide +kernel
theorem ok_Reader_tellWing : okM 39 := okM.of fun pc h => by
  have h : pc < 174 := h
  rcases Nat.lt_or_ge pc 90 with h0 | h0
  · exact okP.at zk_39_0 (by omega) (by omega)
  exact okP.at zk_39_90 (by omega) (by omega)
theorem zk_40_0 : okP 40 0 80 = true := by decide +kernel
theorem ok_Reader_tellStrip : okM 40 := okM.of fun pc h => by
  have h : pc < 80 := h
  exact okP.at zk_40_0 (by omega) (by omega)
theorem zk_41_0 : okP 41 0 20 = true := by decide +kernel
theorem ok_Reader_isMake : okM 41 := okM.of fun pc h => by
  have h : pc < 20 := h
  exact okP.at zk_41_0 (by omega) (by omega)
theorem zk_42_0 : okP 42 0 90 = true := by decide +kernel
theorem zk_42_90 : okP 42 90 23 = true := by decide +kernel
theorem ok_Reader_tellMake : okM 42 := okM.of fun pc h => by
  have h : pc < 113 := h
  rcases Nat.lt_or_ge pc 90 with h0 | h0
  · exact okP.at zk_42_0 (by omega) (by omega)
  exact okP.at zk_42_90 (by omega) (by omega)
theorem zk_43_0 : okP 43 0 69 = true := by decide +kernel
theorem ok_Reader_tellBar : okM 43 := okM.of fun pc h => by
  have h : pc < 69 := h
  exact okP.at zk_43_0 (by omega) (by omega)
theorem zk_44_0 : okP 44 0 90 = true := by decide +kernel
theorem zk_44_90 : okP 44 90 68 = true := by decide +kernel
theorem ok_Reader_condition : okM 44 := okM.of fun pc h => by
  have h : pc < 158 := h
  rcases Nat.lt_or_ge pc 90 with h0 | h0
  · exact okP.at zk_44_0 (by omega) (by omega)
  exact okP.at zk_44_90 (by omega) (by omega)
theorem zk_45_0 : okP 45 0 90 = true := by decide +kernel
theorem zk_45_90 : okP 45 90 82 = true := by decide +kernel
theorem ok_Reader_expression : okM 45 := okM.of fun pc h => by
  have h : pc < 172 := h
  rcases Nat.lt_or_ge pc 90 with h0 | h0
  · exact okP.at zk_45_0 (by omega) (by omega)
  exact okP.at zk_45_90 (by omega) (by omega)
theorem zk_46_0 : okP 46 0 60 = true := by decide +kernel
theorem ok_Reader_unit : okM 46 := okM.of fun pc h => by
  have h : pc < 60 := h
  exact okP.at zk_46_0 (by omega) (by omega)
theorem zk_47_0 : okP 47 0 32 = true := by decide +kernel
theorem ok_Reader_rankOf : okM 47 := okM.of fun pc h => by
  have h : pc < 32 := h
  exact okP.at zk_47_0 (by omega) (by omega)
