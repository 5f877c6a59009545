set_option maxRecDepth 100000 in
theorem ck_207 : ∀ x ∈ K_207, ie_ck 207 "PlayCutterModel" false x = true := by decide +kernel
set_option maxRecDepth 100000 in
theorem mk_207 : ie_mck 207 = true := by decide +kernel
set_option maxRecDepth 100000 in
theorem ck_208 : ∀ x ∈ K_208, ie_ck 208 "PlayCutterModel" false x = true := by decide +kernel
set_option maxRecDepth 100000 in
theorem mk_208 : ie_mck 208 = true := by decide +kernel
set_option maxRecDepth 100000 in
theorem ck_209 : ∀ x ∈ K_209, ie_ck 209 "PlayCutterModel" false x = true := by decide +kernel
set_option maxRecDepth 100000 in
theorem mk_209 : ie_mck 209 = true := by decide +kernel
set_option maxRecDepth 100000 in
theorem ck_210 : ∀ x ∈ K_210, ie_ck 210 "PlayCutterModel" false x = true := by decide +kernel
set_option maxRecDepth 100000 in
theorem mk_210 : ie_mck 210 = true := by decide +kernel
set_option maxRecDepth 100000 in
theorem ck_211 : ∀ x ∈ K_211, ie_ck 211 "PlayCutterModel" false x = true := by decide +kernel
set_option maxRecDepth 100000 in
theorem mk_211 : ie_mck 211 = true := by decide +kernel
set_option maxRecDepth 100000 in
theorem ck_212 : ∀ x ∈ K_212, ie_ck 212 "PlayCutterModel" false x = true := by decide +kernel
set_option maxRecDepth 100000 in
theorem mk_212 : ie_mck 212 = true := by decide +kernel
set_option maxRecDepth 100000 in
theorem ck_213 : ∀ x ∈ K_213, ie_ck 213 "PlayCutterModel" false x = true := by decide +kernel
set_option maxRecDepth 100000 in
theorem mk_213 : ie_mck 213 = true := by decide +kernel
set_option maxRecDepth 100000 in
theorem ck_214 : ∀ x ∈ K_214, ie_ck 214 "PlayCutterModel" false x = true := by decide +kernel
set_option maxRecDepth 100000 in
theorem mk_214 : ie_mck 214 = true := by decide +kernel
set_option maxRecDepth 100000 in
theorem ck_215 : ∀ x ∈ K_215, ie_ck 215 "PlayCutterModel" false x = true := by decide +kernel
set_option maxRecDepth 100000 in
theorem mk_215 : ie_mck 215 = true := by decide +kernel
set_option maxRecDepth 100000 in
theorem ck_216 : ∀ x ∈ K_216, ie_ck 216 "PlayCutterModel" false x = true := by decide +kernel
set_option maxRecDepth 100000 in
theorem mk_216 : ie_mck 216 = true := by decide +kernel
set_option maxRecDepth 100000 in
theorem ck_217 : ∀ x ∈ K_217, ie_ck 217 "PlayCutterModel" false x = true := by decide +kernel
set_option maxRecDepth 100000 in
theorem mk_217 : ie_mck 217 = true := by decide +kernel
set_option maxRecDepth 100000 in
theorem ck_218 : ∀ x ∈ K_218, ie_ck 218 "PlayCutterModel" false x = true := by decide +kernel
set_option maxRecDepth 100000 in
theorem mk_218 : ie_mck 218 = true := by decide +kernel
set_option maxRecDepth 100000 in
theorem ck_219 : ∀ x ∈ K_219, ie_ck 219 "PlayCutterModel" false x = true := by decide +kernel
set_option maxRecDepth 100000 in
theorem mk_219 : ie_mck 219 = true := by decide +kernel
set_option maxRecDepth 100000 in
theorem ck_220 : ∀ x ∈ K_220, ie_ck 220 "PlayCutterModel" false x = true := by decide +kernel
set_option maxRecDepth 100000 in
theorem mk_220 : ie_mck 220 = true := by decide +kernel
set_option maxRecDepth 100000 in
theorem ck_221 : ∀ x ∈ K_221, ie_ck 221 "PlayCutterModel" false x = true := by decide +kernel
set_option maxRecDepth 100000 in
theorem mk_221 : ie_mck 221 = true := by decide +kernel
set_option maxRecDepth 100000 in
theorem ck_222_0 : ∀ x ∈ K_222_0, ie_ck 222 "PlayCutterLaw" false x = true := by decide +kernel
set_option maxRecDepth 100000 in
theorem ck_222_1 : ∀ x ∈ K_222_1, ie_ck 222 "PlayCutterLaw" false x = true := by decide +kernel
set_option maxRecDepth 100000 in
theorem ck_222_2 : ∀ x ∈ K_222_2, ie_ck 222 "PlayCutterLaw" false x = true := by decide +kernel
set_option maxRecDepth 100000 in
theorem ck_222_3 : ∀ x ∈ K_222_3, ie_ck 222 "PlayCutterLaw" false x = true := by decide +kernel
set_option maxRecDepth 100000 in
theorem ck_222_4 : ∀ x ∈ K_222_4, ie_ck 222 "PlayCutterLaw" false x = true := by decide +kernel
set_option maxRecDepth 100000 in
theorem ck_222_5 : ∀ x ∈ K_222_5, ie_ck 222 "PlayCutterLaw" false x = true := by decide +kernel
set_option maxRecDepth 100000 in
theorem ck_222_6 : ∀ x ∈ K_222_6, ie_ck 222 "PlayCutterLaw" false x = true := by decide +kernel
set_option maxRecDepth 100000 in
theorem ck_222_7 : ∀ x ∈ K_222_7, ie_ck 222 "PlayCutterLaw" false x = true := by decide +kernel
set_option maxRecDepth 100000 in
theorem ck_222_8 : ∀ x ∈ K_222_8, ie_ck 222 "PlayCutterLaw" false x = true := by decide +kernel
set_option maxRecDepth 100000 in
theorem ck_222_9 : ∀ x ∈ K_222_9, ie_ck 222 "PlayCutterLaw" false x = true := by decide +kernel
set_option maxRecDepth 100000 in
theorem ck_222_10 : ∀ x ∈ K_222_10, ie_ck 222 "PlayCutterLaw" false x = true := by decide +kernel
set_option maxRecDepth 100000 in
theorem ck_222_11 : ∀ x ∈ K_222_11, ie_ck 222 "PlayCutterLaw" false x = true := by decide +kernel
set_option maxRecDepth 100000 in
theorem ck_222_12 : ∀ x ∈ K_222_12, ie_ck 222 "PlayCutterLaw" false x = true := by decide +kernel
set_option maxRecDepth 100000 in
theorem ck_222_13 : ∀ x ∈ K_222_13, ie_ck 222 "PlayCutterLaw" false x = true := by decide +kernel
set_option maxRecDepth 100000 in
theorem ck_222_14 : ∀ x ∈ K_222_14, ie_ck 222 "PlayCutterLaw" false x = true := by decide +kernel
set_option maxRecDepth 100000 in
theorem ck_222_15 : ∀ x ∈ K_222_15, ie_ck 222 "PlayCutterLaw" false x = true := by decide +kernel
theorem ck_222 : ∀ x ∈ K_222, ie_ck 222 "PlayCutterLaw" false x = true := List.forall_mem_append.mpr ⟨ck_222_0, List.forall_mem_append.mpr ⟨ck_222_1, List.forall_mem_append.mpr ⟨ck_222_2, List.forall_mem_append.mpr ⟨ck_222_3, List.forall_mem_append.mpr ⟨ck_222_4, List.forall_mem_append.mpr ⟨ck_222_5, List.forall_mem_append.mpr ⟨ck_222_6, List.forall_mem_append.mpr ⟨ck_222_7, List.forall_mem_append.mpr ⟨ck_222_8, List.forall_mem_append.mpr ⟨ck_222_9, List.forall_mem_append.mpr ⟨ck_222_10, List.forall_mem_append.mpr ⟨ck_222_11, List.forall_mem_append.mpr ⟨ck_222_12, List.forall_mem_append.mpr ⟨ck_222_13, List.forall_mem_append.mpr ⟨ck_222_14, ck_222_15⟩⟩⟩⟩⟩⟩⟩⟩⟩⟩⟩⟩⟩⟩⟩
