theorem zk_150_0 : okP 150 0 47 = true := by decide +kernel
theorem ok_MD_feed : okM 150 := okM.of fun pc h => by
  have h : pc < 47 := h
  exact okP.at zk_150_0 (by omega) (by omega)
theorem zk_151_0 : okP 151 0 37 = true := by decide +kernel
theorem ok_MD_put : okM 151 := okM.of fun pc h => by
  have h : pc < 37 := h
  exact okP.at zk_151_0 (by omega) (by omega)
theorem zk_152_0 : okP 152 0 29 = true := by decide +kernel
theorem ok_MD_back : okM 152 := okM.of fun pc h => by
  have h : pc < 29 := h
  exact okP.at zk_152_0 (by omega) (by omega)
theorem zk_153_0 : okP 153 0 23 = true := by decide +kernel
theorem ok_MD_at : okM 153 := okM.of fun pc h => by
  have h : pc < 23 := h
  exact okP.at zk_153_0 (by omega) (by omega)
theorem zk_154_0 : okP 154 0 18 = true := by decide +kernel
theorem ok_MD_isDigit : okM 154 := okM.of fun pc h => by
  have h : pc < 18 := h
  exact okP.at zk_154_0 (by omega) (by omega)
theorem zk_155_0 : okP 155 0 18 = true := by decide +kernel
theorem ok_MD_isLetter : okM 155 := okM.of fun pc h => by
  have h : pc < 18 := h
  exact okP.at zk_155_0 (by omega) (by omega)
theorem zk_156_0 : okP 156 0 22 = true := by decide +kernel
theorem ok_MD_more : okM 156 := okM.of fun pc h => by
  have h : pc < 22 := h
  exact okP.at zk_156_0 (by omega) (by omega)
theorem zk_157_0 : okP 157 0 33 = true := by decide +kernel
theorem ok_MD_word : okM 157 := okM.of fun pc h => by
  have h : pc < 33 := h
  exact okP.at zk_157_0 (by omega) (by omega)
theorem zk_158_0 : okP 158 0 52 = true := by decide +kernel
theorem ok_MD_token : okM 158 := okM.of fun pc h => by
  have h : pc < 52 := h
  exact okP.at zk_158_0 (by omega) (by omega)
theorem zk_159_0 : okP 159 0 90 = true := by decide +kernel
theorem zk_159_90 : okP 159 90 90 = true := by decide +kernel
theorem zk_159_180 : okP 159 180 90 = true := by decide +kernel
theorem zk_159_270 : okP 159 270 25 = true := by decide +kernel
theorem ok_MD_cut : okM 159 := okM.of fun pc h => by
  have h : pc < 295 := h
  rcases Nat.lt_or_ge pc 90 with h0 | h0
  · exact okP.at zk_159_0 (by omega) (by omega)
  rcases Nat.lt_or_ge pc 180 with h90 | h90
  · exact okP.at zk_159_90 (by omega) (by omega)
  rcases Nat.lt_or_ge pc 270 with h180 | h180
  · exact okP.at zk_159_180 (by omega) (by omega)
  exact okP.at zk_159_270 (by omega) (by omega)
theorem zk_160_0 : okP 160 0 90 = true := by decide +kernel
theorem zk_160_90 : okP 160 90 90 = true := by decide +kernel
theorem zk_160_180 : okP 160 180 26 = true := by decide +kernel
theorem ok_MD_sign : okM 160 := okM.of fun pc h => by
  have h : pc < 206 := h
  rcases Nat.lt_or_ge pc 90 with h0 | h0
  · exact okP.at zk_160_0 (by omega) (by omega)
  rcases Nat.lt_or_ge pc 180 with h90 | h90
  · exact okP.at zk_160_90 (by omega) (by omega)
  exact okP.at zk_160_180 (by omega) (by omega)
theorem zk_161_0 : okP 161 0 26 = true := by decide +kernel
theorem ok_MD_is : okM 161 := okM.of fun pc h => by
  have h : pc < 26 := h
  exact okP.at zk_161_0 (by omega) (by omega)
theorem zk_162_0 : okP 162 0 27 = true := by decide +kernel
theorem ok_MD_fail : okM 162 := okM.of fun pc h => by
  have h : pc < 27 := h
  exact okP.at zk_162_0 (by omega) (by omega)
theorem zk_163_0 : okP 163 0 57 = true := by decide +kernel
theorem ok_MD_wrong : okM 163 := okM.of fun pc h => by
  have h : pc < 57 := h
  exact okP.at zk_163_0 (by omega) (by omega)
theorem zk_164_0 : okP 164 0 29 = true := by decide +kernel
theorem ok_MD_goesOn : okM 164 := okM.of fun pc h => by
  have h : pc < 29 := h
  exact okP.at zk_164_0 (by omega) (by omega)
theorem zk_165_0 : okP 165 0 21 = true := by decide +kernel
theorem ok_MD_must : okM 165 := okM.of fun pc h => by
  have h : pc < 21 := h
  exact okP.at zk_165_0 (by omega) (by omega)
theorem zk_166_0 : okP 166 0 90 = true := by decide +kernel
theorem zk_166_90 : okP 166 90 90 = true := by decide +kernel
theorem zk_166_180 : okP 166 180 90 = true := by decide +kernel
theorem zk_166_270 : okP 166 270 31 = true := by decide +kernel
theorem ok_MD_read : okM 166 := okM.of fun pc h => by
  have h : pc < 301 := h
  rcases Nat.lt_or_ge pc 90 with h0 | h0
  · exact okP.at zk_166_0 (by omega) (by omega)
  rcases Nat.lt_or_ge pc 180 with h90 | h90
  · exact okP.at zk_166_90 (by omega) (by omega)
  rcases Nat.lt_or_ge pc 270 with h180 | h180
  · exact okP.at zk_166_180 (by omega) (by omega)
  exact okP.at zk_166_270 (by omega) (by omega)
theorem zk_167_0 : okP 167 0 5 = true := by decide +kernel
theorem ok_MD_place : okM 167 := okM.of fun pc h => by
  have h : pc < 5 := h
  exact okP.at zk_167_0 (by omega) (by omega)
theorem zk_168_0 : okP 168 0 90 = true := by decide +kernel
theorem zk_168_90 : okP 168 90 62 = true := by decide +kernel
theorem ok_MD_tell : okM 168 := okM.of fun pc h => by
  have h : pc < 152 := h
  rcases Nat.lt_or_ge pc 90 with h0 | h0
  · exact okP.at zk_168_0 (by omega) (by omega)
  exact okP.at zk_168_90 (by omega) (by omega)
theorem zk_169_0 : okP 169 0 90 = true := by decide +kernel
theorem zk_169_90 : okP 169 90 90 = true := by decide +kernel
theorem zk_169_180 : okP 169 180 80 = true := by decide +kernel
theorem ok_MD_named : okM 169 := okM.of fun pc h => by
  have h : pc < 260 := h
  rcases Nat.lt_or_ge pc 90 with h0 | h0
  · exact okP.at zk_169_0 (by omega) (by omega)
  rcases Nat.lt_or_ge pc 180 with h90 | h90
  · exact okP.at zk_169_90 (by omega) (by omega)
  exact okP.at zk_169_180 (by omega) (by omega)
theorem zk_170_0 : okP 170 0 75 = true := by decide +kernel
theorem ok_MD_number : okM 170 := okM.of fun pc h => by
  have h : pc < 75 := h
  exact okP.at zk_170_0 (by omega) (by omega)
theorem zk_171_0 : okP 171 0 27 = true := by decide +kernel
theorem ok_MD_within : okM 171 := okM.of fun pc h => by
  have h : pc < 27 := h
  exact okP.at zk_171_0 (by omega) (by omega)
theorem zk_172_0 : okP 172 0 90 = true := by decide +kernel
theorem zk_172_90 : okP 172 90 90 = true := by decide +kernel
theorem zk_172_180 : okP 172 180 90 = true := by decide +kernel
theorem zk_172_270 : okP 172 270 17 = true := by decide +kernel
theorem ok_MD_tellLaw : okM 172 := okM.of fun pc h => by
  have h : pc < 287 := h
  rcases Nat.lt_or_ge pc 90 with h0 | h0
  · exact okP.at zk_172_0 (by omega) (by omega)
  rcases Nat.lt_or_ge pc 180 with h90 | h90
  · exact okP.at zk_172_90 (by omega) (by omega)
  rcases Nat.lt_or_ge pc 270 with h180 | h180
  · exact okP.at zk_172_180 (by omega) (by omega)
  exact okP.at zk_172_270 (by omega) (by omega)
theorem zk_173_0 : okP 173 0 90 = true := by decide +kernel
theorem zk_173_90 : okP 173 90 4 = true := by decide +kernel
theorem ok_MD_tellHinge : okM 173 := okM.of fun pc h => by
  have h : pc < 94 := h
  rcases Nat.lt_or_ge pc 90 with h0 | h0
  · exact okP.at zk_173_0 (by omega) (by omega)
  exact okP.at zk_173_90 (by omega) (by omega)
theorem zk_174_0 : okP 174 0 90 = true := by decide +kernel
theorem zk_174_90 : okP 174 90 24 = true := by decide +kernel
theorem ok_MD_lawNamed : okM 174 := okM.of fun pc h => by
  have h : pc < 114 := h
  rcases Nat.lt_or_ge pc 90 with h0 | h0
  · exact okP.at zk_174_0 (by omega) (by omega)
  exact okP.at zk_174_90 (by omega) (by omega)
theorem zk_175_0 : okP 175 0 81 = true := by decide +kernel
theorem ok_MD_hingeNamed : okM 175 := okM.of fun pc h => by
  have h : pc < 81 := h
  exact okP.at zk_175_0 (by omega) (by omega)
theorem zk_176_0 : okP 176 0 90 = true := by decide +kernel
theorem zk_176_90 : okP 176 90 90 = true := by decide +kernel
theorem zk_176_180 : okP 176 180 90 = true := by decide +kernel
theorem zk_176_270 : okP 176 270 76 = true := by decide +kernel
theorem ok_MD_tellWing : okM 176 := okM.of fun pc h => by
  have h : pc < 346 := h
  rcases Nat.lt_or_ge pc 90 with h0 | h0
  · exact okP.at zk_176_0 (by omega) (by omega)
  rcases Nat.lt_or_ge pc 180 with h90 | h90
  · exact okP.at zk_176_90 (by omega) (by omega)
  rcases Nat.lt_or_ge pc 270 with h180 | h180
  · exact okP.at zk_176_180 (by omega) (by omega)
  exact okP.at zk_176_270 (by omega) (by omega)
theorem zk_177_0 : okP 177 0 90 = true := by decide +kernel
theorem zk_177_90 : okP 177 90 81 = true := by decide +kernel
theorem ok_MD_tellMore : okM 177 := okM.of fun pc h => by
  have h : pc < 171 := h
  rcases Nat.lt_or_ge pc 90 with h0 | h0
  · exact okP.at zk_177_0 (by omega) (by omega)
  exact okP.at zk_177_90 (by omega) (by omega)
theorem zk_178_0 : okP 178 0 90 = true := by decide +kernel
theorem zk_178_90 : okP 178 90 71 = true := by decide +kernel
theorem ok_MD_tellBar : okM 178 := okM.of fun pc h => by
  have h : pc < 161 := h
  rcases Nat.lt_or_ge pc 90 with h0 | h0
  · exact okP.at zk_178_0 (by omega) (by omega)
  exact okP.at zk_178_90 (by omega) (by omega)
theorem zk_179_0 : okP 179 0 90 = true := by decide +kernel
theorem zk_179_90 : okP 179 90 90 = true := by decide +kernel
theorem zk_179_180 : okP 179 180 3 = true := by decide +kernel
theorem ok_MD_literal : okM 179 := okM.of fun pc h => by
  have h : pc < 183 := h
  rcases Nat.lt_or_ge pc 90 with h0 | h0
  · exact okP.at zk_179_0 (by omega) (by omega)
  rcases Nat.lt_or_ge pc 180 with h90 | h90
  · exact okP.at zk_179_90 (by omega) (by omega)
  exact okP.at zk_179_180 (by omega) (by omega)
theorem zk_180_0 : okP 180 0 31 = true := by decide +kernel
theorem ok_MD_emit : okM 180 := okM.of fun pc h => by
  have h : pc < 31 := h
  exact okP.at zk_180_0 (by omega) (by omega)
theorem zk_181_0 : okP 181 0 90 = true := by decide +kernel
theorem zk_181_90 : okP 181 90 2 = true := by decide +kernel
theorem ok_MD_comesOut : okM 181 := okM.of fun pc h => by
  have h : pc < 92 := h
  rcases Nat.lt_or_ge pc 90 with h0 | h0
  · exact okP.at zk_181_0 (by omega) (by omega)
  exact okP.at zk_181_90 (by omega) (by omega)
theorem zk_182_0 : okP 182 0 90 = true := by decide +kernel
theorem zk_182_90 : okP 182 90 90 = true := by decide +kernel
theorem zk_182_180 : okP 182 180 90 = true := by decide +kernel
theorem zk_182_270 : okP 182 270 3 = true := by decide +kernel
theorem ok_MD_expression : okM 182 := okM.of fun pc h => by
  have h : pc < 273 := h
  rcases Nat.lt_or_ge pc 90 with h0 | h0
  · exact okP.at zk_182_0 (by omega) (by omega)
  rcases Nat.lt_or_ge pc 180 with h90 | h90
  · exact okP.at zk_182_90 (by omega) (by omega)
  rcases Nat.lt_or_ge pc 270 with h180 | h180
  · exact okP.at zk_182_180 (by omega) (by omega)
  exact okP.at zk_182_270 (by omega) (by omega)
