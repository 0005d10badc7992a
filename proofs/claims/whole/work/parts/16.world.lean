/-! the cells of one archive and one reference, in the order in which they are made; from 2 on -/
def GS : ma_S := [.inl 6, .inr (.int, 160), .inr (.object ma_row, 64)] ++ (List.replicate 64 (.inl 0) ++ ([.inr (.object ma_row, 90)] ++ (List.replicate 90 (.inl 0) ++
  [.inl 1, .inr (.int, 255), .inr (.int, 256),
   .inl 4, .inr (.int, 16), .inr (.boolean, 16), .inr (.int, 6), .inr (.int, 6), .inr (.int, 7), .inr (.int, 7), .inr (.int, 7), .inr (.int, 7),
   .inr (.int, 64), .inl 2, .inr (.int, 33),
   .inl 5, .inl 3, .inl 2, .inr (.int, 33), .inr (.int, 64), .inr (.int, 256), .inr (.int, 160), .inr (.int, 4), .inr (.int, 4),
   .inl 7, .inr (.int, 160), .inr (.byte, 2880), .inr (.byte, 5400), .inr (.int, 90), .inr (.int, 160), .inr (.int, 4), .inr (.int, 4), .inr (.int, 33), .inr (.int, 60), .inr (.int, 64), .inr (.int, 256), .inr (.int, 16), .inr (.int, 42), .inr (.int, 6), .inr (.int, 96), .inr (.int, 256),
   .inr (.long, 1)])))
theorem gs_len : GS.length = 200 := by decide +kernel
theorem gs_row {a : Nat} (h : (5 ≤ a ∧ a ≤ 68) ∨ (70 ≤ a ∧ a ≤ 159)) : ma_sh GS a = some (.inl 0) := by
  have hc : ∀ i, i < 160 → (5 ≤ i ∧ i ≤ 68) ∨ (70 ≤ i ∧ i ≤ 159) → ma_sh GS i = some (.inl 0) := by decide +kernel
  exact hc a (by omega) h
theorem gs_2 : ma_sh GS 2 = some (.inl 6) := by decide +kernel
theorem gs_3 : ma_sh GS 3 = some (.inr (.int, 160)) := by decide +kernel
theorem gs_4 : ma_sh GS 4 = some (.inr (.object ma_row, 64)) := by decide +kernel
theorem gs_69 : ma_sh GS 69 = some (.inr (.object ma_row, 90)) := by decide +kernel
theorem gs_160 : ma_sh GS 160 = some (.inl 1) := by decide +kernel
theorem gs_161 : ma_sh GS 161 = some (.inr (.int, 255)) := by decide +kernel
theorem gs_162 : ma_sh GS 162 = some (.inr (.int, 256)) := by decide +kernel
theorem gs_163 : ma_sh GS 163 = some (.inl 4) := by decide +kernel
theorem gs_164 : ma_sh GS 164 = some (.inr (.int, 16)) := by decide +kernel
theorem gs_165 : ma_sh GS 165 = some (.inr (.boolean, 16)) := by decide +kernel
theorem gs_166 : ma_sh GS 166 = some (.inr (.int, 6)) := by decide +kernel
theorem gs_167 : ma_sh GS 167 = some (.inr (.int, 6)) := by decide +kernel
theorem gs_168 : ma_sh GS 168 = some (.inr (.int, 7)) := by decide +kernel
theorem gs_169 : ma_sh GS 169 = some (.inr (.int, 7)) := by decide +kernel
theorem gs_170 : ma_sh GS 170 = some (.inr (.int, 7)) := by decide +kernel
theorem gs_171 : ma_sh GS 171 = some (.inr (.int, 7)) := by decide +kernel
theorem gs_172 : ma_sh GS 172 = some (.inr (.int, 64)) := by decide +kernel
theorem gs_173 : ma_sh GS 173 = some (.inl 2) := by decide +kernel
theorem gs_174 : ma_sh GS 174 = some (.inr (.int, 33)) := by decide +kernel
theorem gs_175 : ma_sh GS 175 = some (.inl 5) := by decide +kernel
theorem gs_176 : ma_sh GS 176 = some (.inl 3) := by decide +kernel
theorem gs_177 : ma_sh GS 177 = some (.inl 2) := by decide +kernel
theorem gs_178 : ma_sh GS 178 = some (.inr (.int, 33)) := by decide +kernel
theorem gs_179 : ma_sh GS 179 = some (.inr (.int, 64)) := by decide +kernel
theorem gs_180 : ma_sh GS 180 = some (.inr (.int, 256)) := by decide +kernel
theorem gs_181 : ma_sh GS 181 = some (.inr (.int, 160)) := by decide +kernel
theorem gs_182 : ma_sh GS 182 = some (.inr (.int, 4)) := by decide +kernel
theorem gs_183 : ma_sh GS 183 = some (.inr (.int, 4)) := by decide +kernel
theorem gs_184 : ma_sh GS 184 = some (.inl 7) := by decide +kernel
theorem gs_185 : ma_sh GS 185 = some (.inr (.int, 160)) := by decide +kernel
theorem gs_186 : ma_sh GS 186 = some (.inr (.byte, 2880)) := by decide +kernel
theorem gs_187 : ma_sh GS 187 = some (.inr (.byte, 5400)) := by decide +kernel
theorem gs_188 : ma_sh GS 188 = some (.inr (.int, 90)) := by decide +kernel
theorem gs_189 : ma_sh GS 189 = some (.inr (.int, 160)) := by decide +kernel
theorem gs_190 : ma_sh GS 190 = some (.inr (.int, 4)) := by decide +kernel
theorem gs_191 : ma_sh GS 191 = some (.inr (.int, 4)) := by decide +kernel
theorem gs_192 : ma_sh GS 192 = some (.inr (.int, 33)) := by decide +kernel
theorem gs_193 : ma_sh GS 193 = some (.inr (.int, 60)) := by decide +kernel
theorem gs_194 : ma_sh GS 194 = some (.inr (.int, 64)) := by decide +kernel
theorem gs_195 : ma_sh GS 195 = some (.inr (.int, 256)) := by decide +kernel
theorem gs_196 : ma_sh GS 196 = some (.inr (.int, 16)) := by decide +kernel
theorem gs_197 : ma_sh GS 197 = some (.inr (.int, 42)) := by decide +kernel
theorem gs_198 : ma_sh GS 198 = some (.inr (.int, 6)) := by decide +kernel
theorem gs_199 : ma_sh GS 199 = some (.inr (.int, 96)) := by decide +kernel
theorem gs_200 : ma_sh GS 200 = some (.inr (.int, 256)) := by decide +kernel
theorem gs_201 : ma_sh GS 201 = some (.inr (.long, 1)) := by decide +kernel
def gs_all := (And.intro gs_2 (And.intro gs_3 (And.intro gs_4 (And.intro gs_69 (And.intro gs_160 (And.intro gs_161 (And.intro gs_162 (And.intro gs_163 (And.intro gs_164 (And.intro gs_165 (And.intro gs_166 (And.intro gs_167 (And.intro gs_168 (And.intro gs_169 (And.intro gs_170 (And.intro gs_171 (And.intro gs_172 (And.intro gs_173 (And.intro gs_174 (And.intro gs_175 (And.intro gs_176 (And.intro gs_177 (And.intro gs_178 (And.intro gs_179 (And.intro gs_180 (And.intro gs_181 (And.intro gs_182 (And.intro gs_183 (And.intro gs_184 (And.intro gs_185 (And.intro gs_186 (And.intro gs_187 (And.intro gs_188 (And.intro gs_189 (And.intro gs_190 (And.intro gs_191 (And.intro gs_192 (And.intro gs_193 (And.intro gs_194 (And.intro gs_195 (And.intro gs_196 (And.intro gs_197 (And.intro gs_198 (And.intro gs_199 (And.intro gs_200 gs_201)))))))))))))))))))))))))))))))))))))))))))))
