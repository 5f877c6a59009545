set_option maxRecDepth 100000 in
theorem ck_138 : ∀ x ∈ K_138, ie_ck 138 "PlayCutterModel" false x = true := by decide +kernel
set_option maxRecDepth 100000 in
theorem mk_138 : ie_mck 138 = true := by decide +kernel
set_option maxRecDepth 100000 in
theorem ck_139 : ∀ x ∈ K_139, ie_ck 139 "PlayCutterModel" false x = true := by decide +kernel
set_option maxRecDepth 100000 in
theorem mk_139 : ie_mck 139 = true := by decide +kernel
set_option maxRecDepth 100000 in
theorem ck_140 : ∀ x ∈ K_140, ie_ck 140 "PlayCutterModel" false x = true := by decide +kernel
set_option maxRecDepth 100000 in
theorem mk_140 : ie_mck 140 = true := by decide +kernel
set_option maxRecDepth 100000 in
theorem ck_141 : ∀ x ∈ K_141, ie_ck 141 "PlayCutterModel" false x = true := by decide +kernel
set_option maxRecDepth 100000 in
theorem mk_141 : ie_mck 141 = true := by decide +kernel
set_option maxRecDepth 100000 in
theorem ck_142 : ∀ x ∈ K_142, ie_ck 142 "PlayCutterModel" false x = true := by decide +kernel
set_option maxRecDepth 100000 in
theorem mk_142 : ie_mck 142 = true := by decide +kernel
set_option maxRecDepth 100000 in
theorem ck_143 : ∀ x ∈ K_143, ie_ck 143 "PlayCutterModel" false x = true := by decide +kernel
set_option maxRecDepth 100000 in
theorem mk_143 : ie_mck 143 = true := by decide +kernel
set_option maxRecDepth 100000 in
theorem ck_144 : ∀ x ∈ K_144, ie_ck 144 "PlayCutterModel" false x = true := by decide +kernel
set_option maxRecDepth 100000 in
theorem mk_144 : ie_mck 144 = true := by decide +kernel
set_option maxRecDepth 100000 in
theorem ck_145 : ∀ x ∈ K_145, ie_ck 145 "PlayCutterModel" false x = true := by decide +kernel
set_option maxRecDepth 100000 in
theorem mk_145 : ie_mck 145 = true := by decide +kernel
set_option maxRecDepth 100000 in
theorem ck_146 : ∀ x ∈ K_146, ie_ck 146 "PlayCutterModel" false x = true := by decide +kernel
set_option maxRecDepth 100000 in
theorem mk_146 : ie_mck 146 = true := by decide +kernel
set_option maxRecDepth 100000 in
theorem ck_147 : ∀ x ∈ K_147, ie_ck 147 "PlayCutterModel" false x = true := by decide +kernel
set_option maxRecDepth 100000 in
theorem mk_147 : ie_mck 147 = true := by decide +kernel
set_option maxRecDepth 100000 in
theorem ck_148 : ∀ x ∈ K_148, ie_ck 148 "PlayCutterModel" false x = true := by decide +kernel
set_option maxRecDepth 100000 in
theorem mk_148 : ie_mck 148 = true := by decide +kernel
set_option maxRecDepth 100000 in
theorem ck_149 : ∀ x ∈ K_149, ie_ck 149 "PlayCutterModel" false x = true := by decide +kernel
set_option maxRecDepth 100000 in
theorem mk_149 : ie_mck 149 = true := by decide +kernel
set_option maxRecDepth 100000 in
theorem ck_150 : ∀ x ∈ K_150, ie_ck 150 "PlayCutterModel" false x = true := by decide +kernel
set_option maxRecDepth 100000 in
theorem mk_150 : ie_mck 150 = true := by decide +kernel
set_option maxRecDepth 100000 in
theorem ck_151 : ∀ x ∈ K_151, ie_ck 151 "PlayCutterModel" false x = true := by decide +kernel
set_option maxRecDepth 100000 in
theorem mk_151 : ie_mck 151 = true := by decide +kernel
set_option maxRecDepth 100000 in
theorem ck_152 : ∀ x ∈ K_152, ie_ck 152 "PlayCutterModel" false x = true := by decide +kernel
set_option maxRecDepth 100000 in
theorem mk_152 : ie_mck 152 = true := by decide +kernel
set_option maxRecDepth 100000 in
theorem ck_153 : ∀ x ∈ K_153, ie_ck 153 "PlayCutterModel" false x = true := by decide +kernel
set_option maxRecDepth 100000 in
theorem mk_153 : ie_mck 153 = true := by decide +kernel
set_option maxRecDepth 100000 in
theorem ck_154 : ∀ x ∈ K_154, ie_ck 154 "PlayCutterModel" false x = true := by decide +kernel
set_option maxRecDepth 100000 in
theorem mk_154 : ie_mck 154 = true := by decide +kernel
set_option maxRecDepth 100000 in
theorem ck_155 : ∀ x ∈ K_155, ie_ck 155 "PlayCutterModel" false x = true := by decide +kernel
set_option maxRecDepth 100000 in
theorem mk_155 : ie_mck 155 = true := by decide +kernel
