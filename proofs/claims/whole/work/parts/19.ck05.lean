theorem zk_224_0 : okP 224 0 30 = true := by decide +kernel
theorem ok_MD_holdsTo : okM 224 := okM.of fun pc h => by
  have h : pc < 30 := h
  exact okP.at zk_224_0 (by omega) (by omega)
theorem zk_225_0 : okP 225 0 90 = true := by decide +kernel
theorem zk_225_90 : okP 225 90 90 = true := by decide +kernel
theorem zk_225_180 : okP 225 180 90 = true := by decide +kernel
theorem zk_225_270 : okP 225 270 69 = true := by decide +kernel
theorem ok_MD_shakesAt : okM 225 := okM.of fun pc h => by
  have h : pc < 339 := h
  rcases Nat.lt_or_ge pc 90 with h0 | h0
  · exact okP.at zk_225_0 (by omega) (by omega)
  rcases Nat.lt_or_ge pc 180 with h90 | h90
  · exact okP.at zk_225_90 (by omega) (by omega)
  rcases Nat.lt_or_ge pc 270 with h180 | h180
  · exact okP.at zk_225_180 (by omega) (by omega)
  exact okP.at zk_225_270 (by omega) (by omega)
theorem zk_226_0 : okP 226 0 50 = true := by decide +kernel
theorem ok_MD_shakes : okM 226 := okM.of fun pc h => by
  have h : pc < 50 := h
  exact okP.at zk_226_0 (by omega) (by omega)
theorem zk_227_0 : okP 227 0 63 = true := by decide +kernel
theorem ok_MD_shake : okM 227 := okM.of fun pc h => by
  have h : pc < 63 := h
  exact okP.at zk_227_0 (by omega) (by omega)
theorem zk_228_0 : okP 228 0 26 = true := by decide +kernel
theorem ok_MD_bits : okM 228 := okM.of fun pc h => by
  have h : pc < 26 := h
  exact okP.at zk_228_0 (by omega) (by omega)
theorem zk_229_0 : okP 229 0 90 = true := by decide +kernel
theorem zk_229_90 : okP 229 90 90 = true := by decide +kernel
theorem zk_229_180 : okP 229 180 90 = true := by decide +kernel
theorem zk_229_270 : okP 229 270 90 = true := by decide +kernel
theorem zk_229_360 : okP 229 360 40 = true := by decide +kernel
theorem ok_MD_best : okM 229 := okM.of fun pc h => by
  have h : pc < 400 := h
  rcases Nat.lt_or_ge pc 90 with h0 | h0
  · exact okP.at zk_229_0 (by omega) (by omega)
  rcases Nat.lt_or_ge pc 180 with h90 | h90
  · exact okP.at zk_229_90 (by omega) (by omega)
  rcases Nat.lt_or_ge pc 270 with h180 | h180
  · exact okP.at zk_229_180 (by omega) (by omega)
  rcases Nat.lt_or_ge pc 360 with h270 | h270
  · exact okP.at zk_229_270 (by omega) (by omega)
  exact okP.at zk_229_360 (by omega) (by omega)
theorem zk_230_0 : okP 230 0 23 = true := by decide +kernel
theorem ok_MD_twist : okM 230 := okM.of fun pc h => by
  have h : pc < 23 := h
  exact okP.at zk_230_0 (by omega) (by omega)
theorem zk_231_0 : okP 231 0 90 = true := by decide +kernel
theorem zk_231_90 : okP 231 90 49 = true := by decide +kernel
theorem ok_MD_run : okM 231 := okM.of fun pc h => by
  have h : pc < 139 := h
  rcases Nat.lt_or_ge pc 90 with h0 | h0
  · exact okP.at zk_231_0 (by omega) (by omega)
  exact okP.at zk_231_90 (by omega) (by omega)
theorem zk_232_0 : okP 232 0 30 = true := by decide +kernel
theorem ok_MD_isRun : okM 232 := okM.of fun pc h => by
  have h : pc < 30 := h
  exact okP.at zk_232_0 (by omega) (by omega)
theorem zk_233_0 : okP 233 0 46 = true := by decide +kernel
theorem ok_MD_annul : okM 233 := okM.of fun pc h => by
  have h : pc < 46 := h
  exact okP.at zk_233_0 (by omega) (by omega)
theorem zk_234_0 : okP 234 0 25 = true := by decide +kernel
theorem ok_MD_rightOf : okM 234 := okM.of fun pc h => by
  have h : pc < 25 := h
  exact okP.at zk_234_0 (by omega) (by omega)
theorem zk_235_0 : okP 235 0 20 = true := by decide +kernel
theorem ok_MD_right : okM 235 := okM.of fun pc h => by
  have h : pc < 20 := h
  exact okP.at zk_235_0 (by omega) (by omega)
theorem zk_236_0 : okP 236 0 45 = true := by decide +kernel
theorem ok_MD_flies : okM 236 := okM.of fun pc h => by
  have h : pc < 45 := h
  exact okP.at zk_236_0 (by omega) (by omega)
theorem zk_237_0 : okP 237 0 88 = true := by decide +kernel
theorem ok_MD_isFit : okM 237 := okM.of fun pc h => by
  have h : pc < 88 := h
  exact okP.at zk_237_0 (by omega) (by omega)
theorem zk_238_0 : okP 238 0 41 = true := by decide +kernel
theorem ok_MD_fits : okM 238 := okM.of fun pc h => by
  have h : pc < 41 := h
  exact okP.at zk_238_0 (by omega) (by omega)
theorem zk_239_0 : okP 239 0 29 = true := by decide +kernel
theorem ok_MD_isVoid : okM 239 := okM.of fun pc h => by
  have h : pc < 29 := h
  exact okP.at zk_239_0 (by omega) (by omega)
theorem zk_240_0 : okP 240 0 45 = true := by decide +kernel
theorem ok_MD_outBy : okM 240 := okM.of fun pc h => by
  have h : pc < 45 := h
  exact okP.at zk_240_0 (by omega) (by omega)
theorem zk_241_0 : okP 241 0 47 = true := by decide +kernel
theorem ok_MD_out : okM 241 := okM.of fun pc h => by
  have h : pc < 47 := h
  exact okP.at zk_241_0 (by omega) (by omega)
theorem zk_242_0 : okP 242 0 90 = true := by decide +kernel
theorem zk_242_90 : okP 242 90 90 = true := by decide +kernel
theorem zk_242_180 : okP 242 180 60 = true := by decide +kernel
theorem ok_MD_next : okM 242 := okM.of fun pc h => by
  have h : pc < 240 := h
  rcases Nat.lt_or_ge pc 90 with h0 | h0
  · exact okP.at zk_242_0 (by omega) (by omega)
  rcases Nat.lt_or_ge pc 180 with h90 | h90
  · exact okP.at zk_242_90 (by omega) (by omega)
  exact okP.at zk_242_180 (by omega) (by omega)
theorem zk_243_0 : okP 243 0 90 = true := by decide +kernel
theorem zk_243_90 : okP 243 90 90 = true := by decide +kernel
theorem zk_243_180 : okP 243 180 1 = true := by decide +kernel
theorem ok_MD_count : okM 243 := okM.of fun pc h => by
  have h : pc < 181 := h
  rcases Nat.lt_or_ge pc 90 with h0 | h0
  · exact okP.at zk_243_0 (by omega) (by omega)
  rcases Nat.lt_or_ge pc 180 with h90 | h90
  · exact okP.at zk_243_90 (by omega) (by omega)
  exact okP.at zk_243_180 (by omega) (by omega)
theorem zk_244_0 : okP 244 0 53 = true := by decide +kernel
theorem ok_Integer_bitCount_0f7a4 : okM 244 := okM.of fun pc h => by
  have h : pc < 53 := h
  exact okP.at zk_244_0 (by omega) (by omega)
theorem zk_261_0 : okP 261 0 23 = true := by decide +kernel
theorem ok_Arrays_fill_d0a16 : okM 261 := okM.of fun pc h => by
  have h : pc < 23 := h
  exact okP.at zk_261_0 (by omega) (by omega)
theorem zk_262_0 : okP 262 0 21 = true := by decide +kernel
theorem ok_Arrays_fill_53178 : okM 262 := okM.of fun pc h => by
  have h : pc < 21 := h
  exact okP.at zk_262_0 (by omega) (by omega)
theorem zk_264_0 : okP 264 0 90 = true := by decide +kernel
theorem zk_264_90 : okP 264 90 90 = true := by decide +kernel
theorem zk_264_180 : okP 264 180 90 = true := by decide +kernel
theorem zk_264_270 : okP 264 270 90 = true := by decide +kernel
theorem zk_264_360 : okP 264 360 90 = true := by decide +kernel
theorem zk_264_450 : okP 264 450 90 = true := by decide +kernel
theorem zk_264_540 : okP 264 540 90 = true := by decide +kernel
theorem zk_264_630 : okP 264 630 90 = true := by decide +kernel
theorem zk_264_720 : okP 264 720 90 = true := by decide +kernel
theorem zk_264_810 : okP 264 810 90 = true := by decide +kernel
theorem zk_264_900 : okP 264 900 90 = true := by decide +kernel
theorem zk_264_990 : okP 264 990 90 = true := by decide +kernel
theorem zk_264_1080 : okP 264 1080 90 = true := by decide +kernel
theorem zk_264_1170 : okP 264 1170 90 = true := by decide +kernel
theorem zk_264_1260 : okP 264 1260 90 = true := by decide +kernel
theorem zk_264_1350 : okP 264 1350 66 = true := by decide +kernel
theorem ok_LAW_law : okM 264 := okM.of fun pc h => by
  have h : pc < 1416 := h
  rcases Nat.lt_or_ge pc 90 with h0 | h0
  · exact okP.at zk_264_0 (by omega) (by omega)
  rcases Nat.lt_or_ge pc 180 with h90 | h90
  · exact okP.at zk_264_90 (by omega) (by omega)
  rcases Nat.lt_or_ge pc 270 with h180 | h180
  · exact okP.at zk_264_180 (by omega) (by omega)
  rcases Nat.lt_or_ge pc 360 with h270 | h270
  · exact okP.at zk_264_270 (by omega) (by omega)
  rcases Nat.lt_or_ge pc 450 with h360 | h360
  · exact okP.at zk_264_360 (by omega) (by omega)
  rcases Nat.lt_or_ge pc 540 with h450 | h450
  · exact okP.at zk_264_450 (by omega) (by omega)
  rcases Nat.lt_or_ge pc 630 with h540 | h540
  · exact okP.at zk_264_540 (by omega) (by omega)
  rcases Nat.lt_or_ge pc 720 with h630 | h630
  · exact okP.at zk_264_630 (by omega) (by omega)
  rcases Nat.lt_or_ge pc 810 with h720 | h720
  · exact okP.at zk_264_720 (by omega) (by omega)
  rcases Nat.lt_or_ge pc 900 with h810 | h810
  · exact okP.at zk_264_810 (by omega) (by omega)
  rcases Nat.lt_or_ge pc 990 with h900 | h900
  · exact okP.at zk_264_900 (by omega) (by omega)
  rcases Nat.lt_or_ge pc 1080 with h990 | h990
  · exact okP.at zk_264_990 (by omega) (by omega)
  rcases Nat.lt_or_ge pc 1170 with h1080 | h1080
  · exact okP.at zk_264_1080 (by omega) (by omega)
  rcases Nat.lt_or_ge pc 1260 with h1170 | h1170
  · exact okP.at zk_264_1170 (by omega) (by omega)
  rcases Nat.lt_or_ge pc 1350 with h1260 | h1260
  · exact okP.at zk_264_1260 (by omega) (by omega)
  exact okP.at zk_264_1350 (by omega) (by omega)
