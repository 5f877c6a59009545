set_option maxRecDepth 100000 in
theorem ck_156 : ∀ x ∈ K_156, ie_ck 156 "PlayCutterModel" false x = true := by decide +kernel
set_option maxRecDepth 100000 in
theorem mk_156 : ie_mck 156 = true := by decide +kernel
set_option maxRecDepth 100000 in
theorem ck_157 : ∀ x ∈ K_157, ie_ck 157 "PlayCutterModel" false x = true := by decide +kernel
set_option maxRecDepth 100000 in
theorem mk_157 : ie_mck 157 = true := by decide +kernel
set_option maxRecDepth 100000 in
theorem ck_158 : ∀ x ∈ K_158, ie_ck 158 "PlayCutterModel" false x = true := by decide +kernel
set_option maxRecDepth 100000 in
theorem mk_158 : ie_mck 158 = true := by decide +kernel
set_option maxRecDepth 100000 in
theorem ck_159 : ∀ x ∈ K_159, ie_ck 159 "PlayCutterModel" false x = true := by decide +kernel
set_option maxRecDepth 100000 in
theorem mk_159 : ie_mck 159 = true := by decide +kernel
set_option maxRecDepth 100000 in
theorem ck_160 : ∀ x ∈ K_160, ie_ck 160 "PlayCutterModel" false x = true := by decide +kernel
set_option maxRecDepth 100000 in
theorem mk_160 : ie_mck 160 = true := by decide +kernel
set_option maxRecDepth 100000 in
theorem ck_161 : ∀ x ∈ K_161, ie_ck 161 "PlayCutterModel" false x = true := by decide +kernel
set_option maxRecDepth 100000 in
theorem mk_161 : ie_mck 161 = true := by decide +kernel
set_option maxRecDepth 100000 in
theorem ck_162 : ∀ x ∈ K_162, ie_ck 162 "PlayCutterModel" false x = true := by decide +kernel
set_option maxRecDepth 100000 in
theorem mk_162 : ie_mck 162 = true := by decide +kernel
set_option maxRecDepth 100000 in
theorem ck_163 : ∀ x ∈ K_163, ie_ck 163 "PlayCutterModel" false x = true := by decide +kernel
set_option maxRecDepth 100000 in
theorem mk_163 : ie_mck 163 = true := by decide +kernel
set_option maxRecDepth 100000 in
theorem ck_164 : ∀ x ∈ K_164, ie_ck 164 "PlayCutterModel" false x = true := by decide +kernel
set_option maxRecDepth 100000 in
theorem mk_164 : ie_mck 164 = true := by decide +kernel
set_option maxRecDepth 100000 in
theorem ck_165 : ∀ x ∈ K_165, ie_ck 165 "PlayCutterModel" false x = true := by decide +kernel
set_option maxRecDepth 100000 in
theorem mk_165 : ie_mck 165 = true := by decide +kernel
set_option maxRecDepth 100000 in
theorem ck_166 : ∀ x ∈ K_166, ie_ck 166 "PlayCutterModel" false x = true := by decide +kernel
set_option maxRecDepth 100000 in
theorem mk_166 : ie_mck 166 = true := by decide +kernel
set_option maxRecDepth 100000 in
theorem ck_167 : ∀ x ∈ K_167, ie_ck 167 "PlayCutterModel" false x = true := by decide +kernel
set_option maxRecDepth 100000 in
theorem mk_167 : ie_mck 167 = true := by decide +kernel
set_option maxRecDepth 100000 in
theorem ck_168 : ∀ x ∈ K_168, ie_ck 168 "PlayCutterModel" false x = true := by decide +kernel
set_option maxRecDepth 100000 in
theorem mk_168 : ie_mck 168 = true := by decide +kernel
set_option maxRecDepth 100000 in
theorem ck_169 : ∀ x ∈ K_169, ie_ck 169 "PlayCutterModel" false x = true := by decide +kernel
set_option maxRecDepth 100000 in
theorem mk_169 : ie_mck 169 = true := by decide +kernel
set_option maxRecDepth 100000 in
theorem ck_170 : ∀ x ∈ K_170, ie_ck 170 "PlayCutterModel" false x = true := by decide +kernel
set_option maxRecDepth 100000 in
theorem mk_170 : ie_mck 170 = true := by decide +kernel
set_option maxRecDepth 100000 in
theorem ck_171 : ∀ x ∈ K_171, ie_ck 171 "PlayCutterModel" false x = true := by decide +kernel
set_option maxRecDepth 100000 in
theorem mk_171 : ie_mck 171 = true := by decide +kernel
set_option maxRecDepth 100000 in
theorem ck_172 : ∀ x ∈ K_172, ie_ck 172 "PlayCutterModel" false x = true := by decide +kernel
set_option maxRecDepth 100000 in
theorem mk_172 : ie_mck 172 = true := by decide +kernel
set_option maxRecDepth 100000 in
theorem ck_173 : ∀ x ∈ K_173, ie_ck 173 "PlayCutterModel" false x = true := by decide +kernel
set_option maxRecDepth 100000 in
theorem mk_173 : ie_mck 173 = true := by decide +kernel
set_option maxRecDepth 100000 in
theorem ck_174 : ∀ x ∈ K_174, ie_ck 174 "PlayCutterModel" false x = true := by decide +kernel
set_option maxRecDepth 100000 in
theorem mk_174 : ie_mck 174 = true := by decide +kernel
set_option maxRecDepth 100000 in
theorem ck_175 : ∀ x ∈ K_175, ie_ck 175 "PlayCutterModel" false x = true := by decide +kernel
set_option maxRecDepth 100000 in
theorem mk_175 : ie_mck 175 = true := by decide +kernel
set_option maxRecDepth 100000 in
theorem ck_176 : ∀ x ∈ K_176, ie_ck 176 "PlayCutterModel" false x = true := by decide +kernel
set_option maxRecDepth 100000 in
theorem mk_176 : ie_mck 176 = true := by decide +kernel
set_option maxRecDepth 100000 in
theorem ck_177 : ∀ x ∈ K_177, ie_ck 177 "PlayCutterModel" false x = true := by decide +kernel
set_option maxRecDepth 100000 in
theorem mk_177 : ie_mck 177 = true := by decide +kernel
set_option maxRecDepth 100000 in
theorem ck_178 : ∀ x ∈ K_178, ie_ck 178 "PlayCutterModel" false x = true := by decide +kernel
set_option maxRecDepth 100000 in
theorem mk_178 : ie_mck 178 = true := by decide +kernel
