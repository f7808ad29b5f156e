theorem zk_96_0 : okP 96 0 63 = true := by decide +kernel
theorem ok_Trials_init : okM 96 := okM.of fun pc h => by
  have h : pc < 63 := h
  exact okP.at zk_96_0 (by omega) (by omega)
theorem zk_97_0 : okP 97 0 90 = true := by decide +kernel
theorem zk_97_90 : okP 97 90 90 = true := by decide +kernel
theorem zk_97_180 : okP 97 180 40 = true := by decide +kernel
theorem ok_Trials_drawCurve : okM 97 := okM.of fun pc h => by
  have h : pc < 220 := h
  rcases Nat.lt_or_ge pc 90 with h0 | h0
  · exact okP.at zk_97_0 (by omega) (by omega)
  rcases Nat.lt_or_ge pc 180 with h90 | h90
  · exact okP.at zk_97_90 (by omega) (by omega)
  exact okP.at zk_97_180 (by omega) (by omega)
theorem zk_98_0 : okP 98 0 90 = true := by decide +kernel
theorem zk_98_90 : okP 98 90 90 = true := by decide +kernel
theorem zk_98_180 : okP 98 180 6 = true := by decide +kernel
theorem ok_Trials_findTrims : okM 98 := okM.of fun pc h => by
  have h : pc < 186 := h
  rcases Nat.lt_or_ge pc 90 with h0 | h0
  · exact okP.at zk_98_0 (by omega) (by omega)
  rcases Nat.lt_or_ge pc 180 with h90 | h90
  · exact okP.at zk_98_90 (by omega) (by omega)
  exact okP.at zk_98_180 (by omega) (by omega)
theorem zk_99_0 : okP 99 0 70 = true := by decide +kernel
theorem ok_Trials_foldSpeed : okM 99 := okM.of fun pc h => by
  have h : pc < 70 := h
  exact okP.at zk_99_0 (by omega) (by omega)
theorem zk_100_0 : okP 100 0 46 = true := by decide +kernel
theorem ok_Trials_isFolded : okM 100 := okM.of fun pc h => by
  have h : pc < 46 := h
  exact okP.at zk_100_0 (by omega) (by omega)
theorem zk_101_0 : okP 101 0 90 = true := by decide +kernel
theorem zk_101_90 : okP 101 90 63 = true := by decide +kernel
theorem ok_Trials_shakesAt : okM 101 := okM.of fun pc h => by
  have h : pc < 153 := h
  rcases Nat.lt_or_ge pc 90 with h0 | h0
  · exact okP.at zk_101_0 (by omega) (by omega)
  exact okP.at zk_101_90 (by omega) (by omega)
theorem zk_102_0 : okP 102 0 90 = true := by decide +kernel
theorem zk_102_90 : okP 102 90 37 = true := by decide +kernel
theorem ok_Trials_isGrowing : okM 102 := okM.of fun pc h => by
  have h : pc < 127 := h
  rcases Nat.lt_or_ge pc 90 with h0 | h0
  · exact okP.at zk_102_0 (by omega) (by omega)
  exact okP.at zk_102_90 (by omega) (by omega)
theorem zk_103_0 : okP 103 0 14 = true := by decide +kernel
theorem ok_Trials_held : okM 103 := okM.of fun pc h => by
  have h : pc < 14 := h
  exact okP.at zk_103_0 (by omega) (by omega)
theorem zk_104_0 : okP 104 0 90 = true := by decide +kernel
theorem ok_Wing_init : okM 104 := okM.of fun pc h => by
  have h : pc < 90 := h
  exact okP.at zk_104_0 (by omega) (by omega)
theorem zk_105_0 : okP 105 0 37 = true := by decide +kernel
theorem ok_Wing_untell : okM 105 := okM.of fun pc h => by
  have h : pc < 37 := h
  exact okP.at zk_105_0 (by omega) (by omega)
theorem zk_106_0 : okP 106 0 72 = true := by decide +kernel
theorem ok_Wing_addStrip : okM 106 := okM.of fun pc h => by
  have h : pc < 72 := h
  exact okP.at zk_106_0 (by omega) (by omega)
theorem zk_107_0 : okP 107 0 90 = true := by decide +kernel
theorem zk_107_90 : okP 107 90 60 = true := by decide +kernel
theorem ok_WH_init : okM 107 := okM.of fun pc h => by
  have h : pc < 150 := h
  rcases Nat.lt_or_ge pc 90 with h0 | h0
  · exact okP.at zk_107_0 (by omega) (by omega)
  exact okP.at zk_107_90 (by omega) (by omega)
theorem zk_108_0 : okP 108 0 47 = true := by decide +kernel
theorem ok_WH_feed : okM 108 := okM.of fun pc h => by
  have h : pc < 47 := h
  exact okP.at zk_108_0 (by omega) (by omega)
theorem zk_109_0 : okP 109 0 47 = true := by decide +kernel
theorem ok_WH_putFour : okM 109 := okM.of fun pc h => by
  have h : pc < 47 := h
  exact okP.at zk_109_0 (by omega) (by omega)
theorem zk_110_0 : okP 110 0 29 = true := by decide +kernel
theorem ok_WH_back : okM 110 := okM.of fun pc h => by
  have h : pc < 29 := h
  exact okP.at zk_110_0 (by omega) (by omega)
theorem zk_111_0 : okP 111 0 76 = true := by decide +kernel
theorem ok_WH_read : okM 111 := okM.of fun pc h => by
  have h : pc < 76 := h
  exact okP.at zk_111_0 (by omega) (by omega)
theorem zk_112_0 : okP 112 0 5 = true := by decide +kernel
theorem ok_WH_place : okM 112 := okM.of fun pc h => by
  have h : pc < 5 := h
  exact okP.at zk_112_0 (by omega) (by omega)
theorem zk_113_0 : okP 113 0 17 = true := by decide +kernel
theorem ok_WH_use : okM 113 := okM.of fun pc h => by
  have h : pc < 17 := h
  exact okP.at zk_113_0 (by omega) (by omega)
theorem zk_114_0 : okP 114 0 28 = true := by decide +kernel
theorem ok_WH_textOf : okM 114 := okM.of fun pc h => by
  have h : pc < 28 := h
  exact okP.at zk_114_0 (by omega) (by omega)
theorem zk_115_0 : okP 115 0 14 = true := by decide +kernel
theorem ok_WH_wingOf : okM 115 := okM.of fun pc h => by
  have h : pc < 14 := h
  exact okP.at zk_115_0 (by omega) (by omega)
theorem zk_116_0 : okP 116 0 17 = true := by decide +kernel
theorem ok_WH_isSpeed : okM 116 := okM.of fun pc h => by
  have h : pc < 17 := h
  exact okP.at zk_116_0 (by omega) (by omega)
theorem zk_117_0 : okP 117 0 18 = true := by decide +kernel
theorem ok_WH_isSlant : okM 117 := okM.of fun pc h => by
  have h : pc < 18 := h
  exact okP.at zk_117_0 (by omega) (by omega)
theorem zk_118_0 : okP 118 0 14 = true := by decide +kernel
theorem ok_WH_over : okM 118 := okM.of fun pc h => by
  have h : pc < 14 := h
  exact okP.at zk_118_0 (by omega) (by omega)
theorem zk_119_0 : okP 119 0 51 = true := by decide +kernel
theorem ok_WH_law : okM 119 := okM.of fun pc h => by
  have h : pc < 51 := h
  exact okP.at zk_119_0 (by omega) (by omega)
theorem zk_120_0 : okP 120 0 64 = true := by decide +kernel
theorem ok_WH_hinge : okM 120 := okM.of fun pc h => by
  have h : pc < 64 := h
  exact okP.at zk_120_0 (by omega) (by omega)
theorem zk_121_0 : okP 121 0 33 = true := by decide +kernel
theorem ok_WH_gust : okM 121 := okM.of fun pc h => by
  have h : pc < 33 := h
  exact okP.at zk_121_0 (by omega) (by omega)
theorem zk_122_0 : okP 122 0 90 = true := by decide +kernel
theorem zk_122_90 : okP 122 90 3 = true := by decide +kernel
theorem ok_WH_solve : okM 122 := okM.of fun pc h => by
  have h : pc < 93 := h
  rcases Nat.lt_or_ge pc 90 with h0 | h0
  · exact okP.at zk_122_0 (by omega) (by omega)
  exact okP.at zk_122_90 (by omega) (by omega)
theorem zk_123_0 : okP 123 0 90 = true := by decide +kernel
theorem zk_123_90 : okP 123 90 5 = true := by decide +kernel
theorem ok_WH_ground : okM 123 := okM.of fun pc h => by
  have h : pc < 95 := h
  rcases Nat.lt_or_ge pc 90 with h0 | h0
  · exact okP.at zk_123_0 (by omega) (by omega)
  exact okP.at zk_123_90 (by omega) (by omega)
theorem zk_124_0 : okP 124 0 90 = true := by decide +kernel
theorem zk_124_90 : okP 124 90 44 = true := by decide +kernel
theorem ok_WH_follow : okM 124 := okM.of fun pc h => by
  have h : pc < 134 := h
  rcases Nat.lt_or_ge pc 90 with h0 | h0
  · exact okP.at zk_124_0 (by omega) (by omega)
  exact okP.at zk_124_90 (by omega) (by omega)
theorem zk_125_0 : okP 125 0 30 = true := by decide +kernel
theorem ok_WH_settleAndKeep : okM 125 := okM.of fun pc h => by
  have h : pc < 30 := h
  exact okP.at zk_125_0 (by omega) (by omega)
theorem zk_126_0 : okP 126 0 33 = true := by decide +kernel
theorem ok_WH_solvedWing : okM 126 := okM.of fun pc h => by
  have h : pc < 33 := h
  exact okP.at zk_126_0 (by omega) (by omega)
theorem zk_127_0 : okP 127 0 90 = true := by decide +kernel
theorem zk_127_90 : okP 127 90 25 = true := by decide +kernel
theorem ok_WH_strip : okM 127 := okM.of fun pc h => by
  have h : pc < 115 := h
  rcases Nat.lt_or_ge pc 90 with h0 | h0
  · exact okP.at zk_127_0 (by omega) (by omega)
  exact okP.at zk_127_90 (by omega) (by omega)
theorem zk_128_0 : okP 128 0 35 = true := by decide +kernel
theorem ok_WH_edge : okM 128 := okM.of fun pc h => by
  have h : pc < 35 := h
  exact okP.at zk_128_0 (by omega) (by omega)
theorem zk_129_0 : okP 129 0 87 = true := by decide +kernel
theorem ok_WH_force : okM 129 := okM.of fun pc h => by
  have h : pc < 87 := h
  exact okP.at zk_129_0 (by omega) (by omega)
theorem zk_130_0 : okP 130 0 56 = true := by decide +kernel
theorem ok_WH_barred : okM 130 := okM.of fun pc h => by
  have h : pc < 56 := h
  exact okP.at zk_130_0 (by omega) (by omega)
theorem zk_131_0 : okP 131 0 56 = true := by decide +kernel
theorem ok_WH_where : okM 131 := okM.of fun pc h => by
  have h : pc < 56 := h
  exact okP.at zk_131_0 (by omega) (by omega)
theorem zk_132_0 : okP 132 0 69 = true := by decide +kernel
theorem ok_WH_curve : okM 132 := okM.of fun pc h => by
  have h : pc < 69 := h
  exact okP.at zk_132_0 (by omega) (by omega)
theorem zk_133_0 : okP 133 0 26 = true := by decide +kernel
theorem ok_WH_lift : okM 133 := okM.of fun pc h => by
  have h : pc < 26 := h
  exact okP.at zk_133_0 (by omega) (by omega)
theorem zk_134_0 : okP 134 0 52 = true := by decide +kernel
theorem ok_WH_trims : okM 134 := okM.of fun pc h => by
  have h : pc < 52 := h
  exact okP.at zk_134_0 (by omega) (by omega)
theorem zk_135_0 : okP 135 0 90 = true := by decide +kernel
theorem zk_135_90 : okP 135 90 5 = true := by decide +kernel
theorem ok_WH_trim : okM 135 := okM.of fun pc h => by
  have h : pc < 95 := h
  rcases Nat.lt_or_ge pc 90 with h0 | h0
  · exact okP.at zk_135_0 (by omega) (by omega)
  exact okP.at zk_135_90 (by omega) (by omega)
theorem zk_136_0 : okP 136 0 90 = true := by decide +kernel
theorem zk_136_90 : okP 136 90 9 = true := by decide +kernel
theorem ok_WH_stays : okM 136 := okM.of fun pc h => by
  have h : pc < 99 := h
  rcases Nat.lt_or_ge pc 90 with h0 | h0
  · exact okP.at zk_136_0 (by omega) (by omega)
  exact okP.at zk_136_90 (by omega) (by omega)
theorem zk_137_0 : okP 137 0 46 = true := by decide +kernel
theorem ok_WH_fold : okM 137 := okM.of fun pc h => by
  have h : pc < 46 := h
  exact okP.at zk_137_0 (by omega) (by omega)
theorem zk_138_0 : okP 138 0 66 = true := by decide +kernel
theorem ok_WH_shakes : okM 138 := okM.of fun pc h => by
  have h : pc < 66 := h
  exact okP.at zk_138_0 (by omega) (by omega)
theorem zk_139_0 : okP 139 0 81 = true := by decide +kernel
theorem ok_WH_shake : okM 139 := okM.of fun pc h => by
  have h : pc < 81 := h
  exact okP.at zk_139_0 (by omega) (by omega)
theorem zk_140_0 : okP 140 0 90 = true := by decide +kernel
theorem zk_140_90 : okP 140 90 4 = true := by decide +kernel
theorem ok_WH_best : okM 140 := okM.of fun pc h => by
  have h : pc < 94 := h
  rcases Nat.lt_or_ge pc 90 with h0 | h0
  · exact okP.at zk_140_0 (by omega) (by omega)
  exact okP.at zk_140_90 (by omega) (by omega)
theorem zk_141_0 : okP 141 0 9 = true := by decide +kernel
theorem ok_WH_twist : okM 141 := okM.of fun pc h => by
  have h : pc < 9 := h
  exact okP.at zk_141_0 (by omega) (by omega)
theorem zk_142_0 : okP 142 0 69 = true := by decide +kernel
theorem ok_WH_run : okM 142 := okM.of fun pc h => by
  have h : pc < 69 := h
  exact okP.at zk_142_0 (by omega) (by omega)
theorem zk_143_0 : okP 143 0 24 = true := by decide +kernel
theorem ok_WH_annul : okM 143 := okM.of fun pc h => by
  have h : pc < 24 := h
  exact okP.at zk_143_0 (by omega) (by omega)
theorem zk_144_0 : okP 144 0 27 = true := by decide +kernel
theorem ok_WH_right : okM 144 := okM.of fun pc h => by
  have h : pc < 27 := h
  exact okP.at zk_144_0 (by omega) (by omega)
theorem zk_145_0 : okP 145 0 41 = true := by decide +kernel
theorem ok_WH_fits : okM 145 := okM.of fun pc h => by
  have h : pc < 41 := h
  exact okP.at zk_145_0 (by omega) (by omega)
theorem zk_146_0 : okP 146 0 37 = true := by decide +kernel
theorem ok_WH_out : okM 146 := okM.of fun pc h => by
  have h : pc < 37 := h
  exact okP.at zk_146_0 (by omega) (by omega)
theorem zk_147_0 : okP 147 0 90 = true := by decide +kernel
theorem zk_147_90 : okP 147 90 6 = true := by decide +kernel
theorem ok_WH_next : okM 147 := okM.of fun pc h => by
  have h : pc < 96 := h
  rcases Nat.lt_or_ge pc 90 with h0 | h0
  · exact okP.at zk_147_0 (by omega) (by omega)
  exact okP.at zk_147_90 (by omega) (by omega)
theorem zk_148_0 : okP 148 0 90 = true := by decide +kernel
theorem zk_148_90 : okP 148 90 3 = true := by decide +kernel
theorem ok_WH_count : okM 148 := okM.of fun pc h => by
  have h : pc < 93 := h
  rcases Nat.lt_or_ge pc 90 with h0 | h0
  · exact okP.at zk_148_0 (by omega) (by omega)
  exact okP.at zk_148_90 (by omega) (by omega)
theorem zk_149_0 : okP 149 0 90 = true := by decide +kernel
theorem zk_149_90 : okP 149 90 90 = true := by decide +kernel
theorem zk_149_180 : okP 149 180 90 = true := by decide +kernel
theorem zk_149_270 : okP 149 270 90 = true := by decide +kernel
theorem zk_149_360 : okP 149 360 90 = true := by decide +kernel
theorem zk_149_450 : okP 149 450 90 = true := by decide +kernel
theorem zk_149_540 : okP 149 540 90 = true := by decide +kernel
theorem zk_149_630 : okP 149 630 90 = true := by decide +kernel
theorem zk_149_720 : okP 149 720 90 = true := by decide +kernel
theorem zk_149_810 : okP 149 810 90 = true := by decide +kernel
theorem zk_149_900 : okP 149 900 90 = true := by decide +kernel
theorem zk_149_990 : okP 149 990 90 = true := by decide +kernel
theorem zk_149_1080 : okP 149 1080 21 = true := by decide +kernel
theorem ok_MD_init : okM 149 := okM.of fun pc h => by
  have h : pc < 1101 := h
  rcases Nat.lt_or_ge pc 90 with h0 | h0
  · exact okP.at zk_149_0 (by omega) (by omega)
  rcases Nat.lt_or_ge pc 180 with h90 | h90
  · exact okP.at zk_149_90 (by omega) (by omega)
  rcases Nat.lt_or_ge pc 270 with h180 | h180
  · exact okP.at zk_149_180 (by omega) (by omega)
  rcases Nat.lt_or_ge pc 360 with h270 | h270
  · exact okP.at zk_149_270 (by omega) (by omega)
  rcases Nat.lt_or_ge pc 450 with h360 | h360
  · exact okP.at zk_149_360 (by omega) (by omega)
  rcases Nat.lt_or_ge pc 540 with h450 | h450
  · exact okP.at zk_149_450 (by omega) (by omega)
  rcases Nat.lt_or_ge pc 630 with h540 | h540
  · exact okP.at zk_149_540 (by omega) (by omega)
  rcases Nat.lt_or_ge pc 720 with h630 | h630
  · exact okP.at zk_149_630 (by omega) (by omega)
  rcases Nat.lt_or_ge pc 810 with h720 | h720
  · exact okP.at zk_149_720 (by omega) (by omega)
  rcases Nat.lt_or_ge pc 900 with h810 | h810
  · exact okP.at zk_149_810 (by omega) (by omega)
  rcases Nat.lt_or_ge pc 990 with h900 | h900
  · exact okP.at zk_149_900 (by omega) (by omega)
  rcases Nat.lt_or_ge pc 1080 with h990 | h990
  · exact okP.at zk_149_990 (by omega) (by omega)
  exact okP.at zk_149_1080 (by omega) (by omega)
