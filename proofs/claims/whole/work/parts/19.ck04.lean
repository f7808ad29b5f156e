theorem zk_183_0 : okP 183 0 90 = true := by decide +kernel
theorem zk_183_90 : okP 183 90 4 = true := by decide +kernel
theorem ok_MD_unit : okM 183 := okM.of fun pc h => by
  have h : pc < 94 := h
  rcases Nat.lt_or_ge pc 90 with h0 | h0
  · exact okP.at zk_183_0 (by omega) (by omega)
  exact okP.at zk_183_90 (by omega) (by omega)
theorem zk_184_0 : okP 184 0 90 = true := by decide +kernel
theorem zk_184_90 : okP 184 90 87 = true := by decide +kernel
theorem ok_MD_termOf : okM 184 := okM.of fun pc h => by
  have h : pc < 177 := h
  rcases Nat.lt_or_ge pc 90 with h0 | h0
  · exact okP.at zk_184_0 (by omega) (by omega)
  exact okP.at zk_184_90 (by omega) (by omega)
theorem zk_185_0 : okP 185 0 90 = true := by decide +kernel
theorem zk_185_90 : okP 185 90 80 = true := by decide +kernel
theorem ok_MD_isTrue : okM 185 := okM.of fun pc h => by
  have h : pc < 170 := h
  rcases Nat.lt_or_ge pc 90 with h0 | h0
  · exact okP.at zk_185_0 (by omega) (by omega)
  exact okP.at zk_185_90 (by omega) (by omega)
theorem zk_186_0 : okP 186 0 71 = true := by decide +kernel
theorem ok_MD_holds : okM 186 := okM.of fun pc h => by
  have h : pc < 71 := h
  exact okP.at zk_186_0 (by omega) (by omega)
theorem zk_187_0 : okP 187 0 90 = true := by decide +kernel
theorem zk_187_90 : okP 187 90 45 = true := by decide +kernel
theorem ok_MD_valueOf : okM 187 := okM.of fun pc h => by
  have h : pc < 135 := h
  rcases Nat.lt_or_ge pc 90 with h0 | h0
  · exact okP.at zk_187_0 (by omega) (by omega)
  exact okP.at zk_187_90 (by omega) (by omega)
theorem zk_188_0 : okP 188 0 36 = true := by decide +kernel
theorem ok_MD_edgeOf : okM 188 := okM.of fun pc h => by
  have h : pc < 36 := h
  exact okP.at zk_188_0 (by omega) (by omega)
theorem zk_189_0 : okP 189 0 49 = true := by decide +kernel
theorem ok_MD_leaderEdge : okM 189 := okM.of fun pc h => by
  have h : pc < 49 := h
  exact okP.at zk_189_0 (by omega) (by omega)
theorem zk_190_0 : okP 190 0 90 = true := by decide +kernel
theorem zk_190_90 : okP 190 90 90 = true := by decide +kernel
theorem zk_190_180 : okP 190 180 24 = true := by decide +kernel
theorem ok_MD_downOf : okM 190 := okM.of fun pc h => by
  have h : pc < 204 := h
  rcases Nat.lt_or_ge pc 90 with h0 | h0
  · exact okP.at zk_190_0 (by omega) (by omega)
  rcases Nat.lt_or_ge pc 180 with h90 | h90
  · exact okP.at zk_190_90 (by omega) (by omega)
  exact okP.at zk_190_180 (by omega) (by omega)
theorem zk_191_0 : okP 191 0 89 = true := by decide +kernel
theorem ok_MD_bendOf : okM 191 := okM.of fun pc h => by
  have h : pc < 89 := h
  exact okP.at zk_191_0 (by omega) (by omega)
theorem zk_192_0 : okP 192 0 30 = true := by decide +kernel
theorem ok_MD_lawAt : okM 192 := okM.of fun pc h => by
  have h : pc < 30 := h
  exact okP.at zk_192_0 (by omega) (by omega)
theorem zk_193_0 : okP 193 0 90 = true := by decide +kernel
theorem zk_193_90 : okP 193 90 90 = true := by decide +kernel
theorem zk_193_180 : okP 193 180 79 = true := by decide +kernel
theorem ok_MD_round : okM 193 := okM.of fun pc h => by
  have h : pc < 259 := h
  rcases Nat.lt_or_ge pc 90 with h0 | h0
  · exact okP.at zk_193_0 (by omega) (by omega)
  rcases Nat.lt_or_ge pc 180 with h90 | h90
  · exact okP.at zk_193_90 (by omega) (by omega)
  exact okP.at zk_193_180 (by omega) (by omega)
theorem zk_194_0 : okP 194 0 22 = true := by decide +kernel
theorem ok_MD_rests : okM 194 := okM.of fun pc h => by
  have h : pc < 22 := h
  exact okP.at zk_194_0 (by omega) (by omega)
theorem zk_195_0 : okP 195 0 85 = true := by decide +kernel
theorem ok_MD_stands : okM 195 := okM.of fun pc h => by
  have h : pc < 85 := h
  exact okP.at zk_195_0 (by omega) (by omega)
theorem zk_196_0 : okP 196 0 26 = true := by decide +kernel
theorem ok_MD_rounds : okM 196 := okM.of fun pc h => by
  have h : pc < 26 := h
  exact okP.at zk_196_0 (by omega) (by omega)
theorem zk_197_0 : okP 197 0 90 = true := by decide +kernel
theorem zk_197_90 : okP 197 90 40 = true := by decide +kernel
theorem ok_MD_keeps : okM 197 := okM.of fun pc h => by
  have h : pc < 130 := h
  rcases Nat.lt_or_ge pc 90 with h0 | h0
  · exact okP.at zk_197_0 (by omega) (by omega)
  exact okP.at zk_197_90 (by omega) (by omega)
theorem zk_198_0 : okP 198 0 90 = true := by decide +kernel
theorem zk_198_90 : okP 198 90 90 = true := by decide +kernel
theorem zk_198_180 : okP 198 180 1 = true := by decide +kernel
theorem ok_MD_forceNow : okM 198 := okM.of fun pc h => by
  have h : pc < 181 := h
  rcases Nat.lt_or_ge pc 90 with h0 | h0
  · exact okP.at zk_198_0 (by omega) (by omega)
  rcases Nat.lt_or_ge pc 180 with h90 | h90
  · exact okP.at zk_198_90 (by omega) (by omega)
  exact okP.at zk_198_180 (by omega) (by omega)
theorem zk_199_0 : okP 199 0 90 = true := by decide +kernel
theorem zk_199_90 : okP 199 90 84 = true := by decide +kernel
theorem ok_MD_barNow : okM 199 := okM.of fun pc h => by
  have h : pc < 174 := h
  rcases Nat.lt_or_ge pc 90 with h0 | h0
  · exact okP.at zk_199_0 (by omega) (by omega)
  exact okP.at zk_199_90 (by omega) (by omega)
theorem zk_200_0 : okP 200 0 16 = true := by decide +kernel
theorem ok_MD_in : okM 200 := okM.of fun pc h => by
  have h : pc < 16 := h
  exact okP.at zk_200_0 (by omega) (by omega)
theorem zk_201_0 : okP 201 0 8 = true := by decide +kernel
theorem ok_MD_isSpeed : okM 201 := okM.of fun pc h => by
  have h : pc < 8 := h
  exact okP.at zk_201_0 (by omega) (by omega)
theorem zk_202_0 : okP 202 0 9 = true := by decide +kernel
theorem ok_MD_isSlant : okM 202 := okM.of fun pc h => by
  have h : pc < 9 := h
  exact okP.at zk_202_0 (by omega) (by omega)
theorem zk_203_0 : okP 203 0 23 = true := by decide +kernel
theorem ok_MD_use : okM 203 := okM.of fun pc h => by
  have h : pc < 23 := h
  exact okP.at zk_203_0 (by omega) (by omega)
theorem zk_204_0 : okP 204 0 40 = true := by decide +kernel
theorem ok_MD_row : okM 204 := okM.of fun pc h => by
  have h : pc < 40 := h
  exact okP.at zk_204_0 (by omega) (by omega)
theorem zk_205_0 : okP 205 0 61 = true := by decide +kernel
theorem ok_MD_law : okM 205 := okM.of fun pc h => by
  have h : pc < 61 := h
  exact okP.at zk_205_0 (by omega) (by omega)
theorem zk_206_0 : okP 206 0 79 = true := by decide +kernel
theorem ok_MD_hinge : okM 206 := okM.of fun pc h => by
  have h : pc < 79 := h
  exact okP.at zk_206_0 (by omega) (by omega)
theorem zk_207_0 : okP 207 0 28 = true := by decide +kernel
theorem ok_MD_gust : okM 207 := okM.of fun pc h => by
  have h : pc < 28 := h
  exact okP.at zk_207_0 (by omega) (by omega)
theorem zk_208_0 : okP 208 0 90 = true := by decide +kernel
theorem zk_208_90 : okP 208 90 15 = true := by decide +kernel
theorem ok_MD_solve : okM 208 := okM.of fun pc h => by
  have h : pc < 105 := h
  rcases Nat.lt_or_ge pc 90 with h0 | h0
  · exact okP.at zk_208_0 (by omega) (by omega)
  exact okP.at zk_208_90 (by omega) (by omega)
theorem zk_209_0 : okP 209 0 69 = true := by decide +kernel
theorem ok_MD_ground : okM 209 := okM.of fun pc h => by
  have h : pc < 69 := h
  exact okP.at zk_209_0 (by omega) (by omega)
theorem zk_210_0 : okP 210 0 90 = true := by decide +kernel
theorem zk_210_90 : okP 210 90 17 = true := by decide +kernel
theorem ok_MD_follow : okM 210 := okM.of fun pc h => by
  have h : pc < 107 := h
  rcases Nat.lt_or_ge pc 90 with h0 | h0
  · exact okP.at zk_210_0 (by omega) (by omega)
  exact okP.at zk_210_90 (by omega) (by omega)
theorem zk_211_0 : okP 211 0 90 = true := by decide +kernel
theorem zk_211_90 : okP 211 90 32 = true := by decide +kernel
theorem ok_MD_again : okM 211 := okM.of fun pc h => by
  have h : pc < 122 := h
  rcases Nat.lt_or_ge pc 90 with h0 | h0
  · exact okP.at zk_211_0 (by omega) (by omega)
  exact okP.at zk_211_90 (by omega) (by omega)
theorem zk_212_0 : okP 212 0 84 = true := by decide +kernel
theorem ok_MD_strip : okM 212 := okM.of fun pc h => by
  have h : pc < 84 := h
  exact okP.at zk_212_0 (by omega) (by omega)
theorem zk_213_0 : okP 213 0 33 = true := by decide +kernel
theorem ok_MD_edge : okM 213 := okM.of fun pc h => by
  have h : pc < 33 := h
  exact okP.at zk_213_0 (by omega) (by omega)
theorem zk_214_0 : okP 214 0 29 = true := by decide +kernel
theorem ok_MD_force : okM 214 := okM.of fun pc h => by
  have h : pc < 29 := h
  exact okP.at zk_214_0 (by omega) (by omega)
theorem zk_215_0 : okP 215 0 27 = true := by decide +kernel
theorem ok_MD_barred : okM 215 := okM.of fun pc h => by
  have h : pc < 27 := h
  exact okP.at zk_215_0 (by omega) (by omega)
theorem zk_216_0 : okP 216 0 30 = true := by decide +kernel
theorem ok_MD_where : okM 216 := okM.of fun pc h => by
  have h : pc < 30 := h
  exact okP.at zk_216_0 (by omega) (by omega)
theorem zk_217_0 : okP 217 0 90 = true := by decide +kernel
theorem zk_217_90 : okP 217 90 90 = true := by decide +kernel
theorem zk_217_180 : okP 217 180 90 = true := by decide +kernel
theorem zk_217_270 : okP 217 270 22 = true := by decide +kernel
theorem ok_MD_curve : okM 217 := okM.of fun pc h => by
  have h : pc < 292 := h
  rcases Nat.lt_or_ge pc 90 with h0 | h0
  · exact okP.at zk_217_0 (by omega) (by omega)
  rcases Nat.lt_or_ge pc 180 with h90 | h90
  · exact okP.at zk_217_90 (by omega) (by omega)
  rcases Nat.lt_or_ge pc 270 with h180 | h180
  · exact okP.at zk_217_180 (by omega) (by omega)
  exact okP.at zk_217_270 (by omega) (by omega)
theorem zk_218_0 : okP 218 0 35 = true := by decide +kernel
theorem ok_MD_lift : okM 218 := okM.of fun pc h => by
  have h : pc < 35 := h
  exact okP.at zk_218_0 (by omega) (by omega)
theorem zk_219_0 : okP 219 0 90 = true := by decide +kernel
theorem zk_219_90 : okP 219 90 90 = true := by decide +kernel
theorem zk_219_180 : okP 219 180 44 = true := by decide +kernel
theorem ok_MD_trimsOf : okM 219 := okM.of fun pc h => by
  have h : pc < 224 := h
  rcases Nat.lt_or_ge pc 90 with h0 | h0
  · exact okP.at zk_219_0 (by omega) (by omega)
  rcases Nat.lt_or_ge pc 180 with h90 | h90
  · exact okP.at zk_219_90 (by omega) (by omega)
  exact okP.at zk_219_180 (by omega) (by omega)
theorem zk_220_0 : okP 220 0 19 = true := by decide +kernel
theorem ok_MD_trims : okM 220 := okM.of fun pc h => by
  have h : pc < 19 := h
  exact okP.at zk_220_0 (by omega) (by omega)
theorem zk_221_0 : okP 221 0 37 = true := by decide +kernel
theorem ok_MD_trim : okM 221 := okM.of fun pc h => by
  have h : pc < 37 := h
  exact okP.at zk_221_0 (by omega) (by omega)
theorem zk_222_0 : okP 222 0 44 = true := by decide +kernel
theorem ok_MD_stays : okM 222 := okM.of fun pc h => by
  have h : pc < 44 := h
  exact okP.at zk_222_0 (by omega) (by omega)
theorem zk_223_0 : okP 223 0 90 = true := by decide +kernel
theorem zk_223_90 : okP 223 90 24 = true := by decide +kernel
theorem ok_MD_fold : okM 223 := okM.of fun pc h => by
  have h : pc < 114 := h
  rcases Nat.lt_or_ge pc 90 with h0 | h0
  · exact okP.at zk_223_0 (by omega) (by omega)
  exact okP.at zk_223_90 (by omega) (by omega)
