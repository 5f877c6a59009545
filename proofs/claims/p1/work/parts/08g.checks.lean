set_option maxRecDepth 100000 in
theorem ck_179 : ∀ x ∈ K_179, ie_ck 179 "PlayCutterModel" false x = true := by decide +kernel
set_option maxRecDepth 100000 in
theorem mk_179 : ie_mck 179 = true := by decide +kernel
set_option maxRecDepth 100000 in
theorem ck_180 : ∀ x ∈ K_180, ie_ck 180 "PlayCutterModel" false x = true := by decide +kernel
set_option maxRecDepth 100000 in
theorem mk_180 : ie_mck 180 = true := by decide +kernel
set_option maxRecDepth 100000 in
theorem ck_181 : ∀ x ∈ K_181, ie_ck 181 "PlayCutterModel" false x = true := by decide +kernel
set_option maxRecDepth 100000 in
theorem mk_181 : ie_mck 181 = true := by decide +kernel
set_option maxRecDepth 100000 in
theorem ck_182 : ∀ x ∈ K_182, ie_ck 182 "PlayCutterModel" false x = true := by decide +kernel
set_option maxRecDepth 100000 in
theorem mk_182 : ie_mck 182 = true := by decide +kernel
set_option maxRecDepth 100000 in
theorem ck_183 : ∀ x ∈ K_183, ie_ck 183 "PlayCutterModel" false x = true := by decide +kernel
set_option maxRecDepth 100000 in
theorem mk_183 : ie_mck 183 = true := by decide +kernel
set_option maxRecDepth 100000 in
theorem ck_184 : ∀ x ∈ K_184, ie_ck 184 "PlayCutterModel" false x = true := by decide +kernel
set_option maxRecDepth 100000 in
theorem mk_184 : ie_mck 184 = true := by decide +kernel
set_option maxRecDepth 100000 in
theorem ck_185 : ∀ x ∈ K_185, ie_ck 185 "PlayCutterModel" false x = true := by decide +kernel
set_option maxRecDepth 100000 in
theorem mk_185 : ie_mck 185 = true := by decide +kernel
set_option maxRecDepth 100000 in
theorem ck_186 : ∀ x ∈ K_186, ie_ck 186 "PlayCutterModel" false x = true := by decide +kernel
set_option maxRecDepth 100000 in
theorem mk_186 : ie_mck 186 = true := by decide +kernel
set_option maxRecDepth 100000 in
theorem ck_187 : ∀ x ∈ K_187, ie_ck 187 "PlayCutterModel" false x = true := by decide +kernel
set_option maxRecDepth 100000 in
theorem mk_187 : ie_mck 187 = true := by decide +kernel
set_option maxRecDepth 100000 in
theorem ck_188 : ∀ x ∈ K_188, ie_ck 188 "PlayCutterModel" false x = true := by decide +kernel
set_option maxRecDepth 100000 in
theorem mk_188 : ie_mck 188 = true := by decide +kernel
set_option maxRecDepth 100000 in
theorem ck_189 : ∀ x ∈ K_189, ie_ck 189 "PlayCutterModel" false x = true := by decide +kernel
set_option maxRecDepth 100000 in
theorem mk_189 : ie_mck 189 = true := by decide +kernel
set_option maxRecDepth 100000 in
theorem ck_190 : ∀ x ∈ K_190, ie_ck 190 "PlayCutterModel" false x = true := by decide +kernel
set_option maxRecDepth 100000 in
theorem mk_190 : ie_mck 190 = true := by decide +kernel
set_option maxRecDepth 100000 in
theorem ck_191 : ∀ x ∈ K_191, ie_ck 191 "PlayCutterModel" false x = true := by decide +kernel
set_option maxRecDepth 100000 in
theorem mk_191 : ie_mck 191 = true := by decide +kernel
set_option maxRecDepth 100000 in
theorem ck_192 : ∀ x ∈ K_192, ie_ck 192 "PlayCutterModel" false x = true := by decide +kernel
set_option maxRecDepth 100000 in
theorem mk_192 : ie_mck 192 = true := by decide +kernel
set_option maxRecDepth 100000 in
theorem ck_193 : ∀ x ∈ K_193, ie_ck 193 "PlayCutterModel" false x = true := by decide +kernel
set_option maxRecDepth 100000 in
theorem mk_193 : ie_mck 193 = true := by decide +kernel
set_option maxRecDepth 100000 in
theorem ck_194 : ∀ x ∈ K_194, ie_ck 194 "PlayCutterModel" false x = true := by decide +kernel
set_option maxRecDepth 100000 in
theorem mk_194 : ie_mck 194 = true := by decide +kernel
set_option maxRecDepth 100000 in
theorem ck_195 : ∀ x ∈ K_195, ie_ck 195 "PlayCutterModel" false x = true := by decide +kernel
set_option maxRecDepth 100000 in
theorem mk_195 : ie_mck 195 = true := by decide +kernel
set_option maxRecDepth 100000 in
theorem ck_196 : ∀ x ∈ K_196, ie_ck 196 "PlayCutterModel" false x = true := by decide +kernel
set_option maxRecDepth 100000 in
theorem mk_196 : ie_mck 196 = true := by decide +kernel
set_option maxRecDepth 100000 in
theorem ck_197 : ∀ x ∈ K_197, ie_ck 197 "PlayCutterModel" false x = true := by decide +kernel
set_option maxRecDepth 100000 in
theorem mk_197 : ie_mck 197 = true := by decide +kernel
set_option maxRecDepth 100000 in
theorem ck_198 : ∀ x ∈ K_198, ie_ck 198 "PlayCutterModel" false x = true := by decide +kernel
set_option maxRecDepth 100000 in
theorem mk_198 : ie_mck 198 = true := by decide +kernel
set_option maxRecDepth 100000 in
theorem ck_199 : ∀ x ∈ K_199, ie_ck 199 "PlayCutterModel" false x = true := by decide +kernel
set_option maxRecDepth 100000 in
theorem mk_199 : ie_mck 199 = true := by decide +kernel
set_option maxRecDepth 100000 in
theorem ck_200 : ∀ x ∈ K_200, ie_ck 200 "PlayCutterModel" false x = true := by decide +kernel
set_option maxRecDepth 100000 in
theorem mk_200 : ie_mck 200 = true := by decide +kernel
set_option maxRecDepth 100000 in
theorem ck_201 : ∀ x ∈ K_201, ie_ck 201 "PlayCutterModel" false x = true := by decide +kernel
set_option maxRecDepth 100000 in
theorem mk_201 : ie_mck 201 = true := by decide +kernel
set_option maxRecDepth 100000 in
theorem ck_202 : ∀ x ∈ K_202, ie_ck 202 "PlayCutterModel" false x = true := by decide +kernel
set_option maxRecDepth 100000 in
theorem mk_202 : ie_mck 202 = true := by decide +kernel
set_option maxRecDepth 100000 in
theorem ck_203 : ∀ x ∈ K_203, ie_ck 203 "PlayCutterModel" false x = true := by decide +kernel
set_option maxRecDepth 100000 in
theorem mk_203 : ie_mck 203 = true := by decide +kernel
set_option maxRecDepth 100000 in
theorem ck_204 : ∀ x ∈ K_204, ie_ck 204 "PlayCutterModel" false x = true := by decide +kernel
set_option maxRecDepth 100000 in
theorem mk_204 : ie_mck 204 = true := by decide +kernel
set_option maxRecDepth 100000 in
theorem ck_205 : ∀ x ∈ K_205, ie_ck 205 "PlayCutterModel" false x = true := by decide +kernel
set_option maxRecDepth 100000 in
theorem mk_205 : ie_mck 205 = true := by decide +kernel
set_option maxRecDepth 100000 in
theorem ck_206 : ∀ x ∈ K_206, ie_ck 206 "PlayCutterModel" false x = true := by decide +kernel
set_option maxRecDepth 100000 in
theorem mk_206 : ie_mck 206 = true := by decide +kernel
