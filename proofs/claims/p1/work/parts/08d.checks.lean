set_option maxRecDepth 100000 in
theorem ck_110 : ∀ x ∈ K_110, ie_ck 110 "PlayCutter$Queue" false x = true := by decide +kernel
set_option maxRecDepth 100000 in
theorem mk_110 : ie_mck 110 = true := by decide +kernel
set_option maxRecDepth 100000 in
theorem ck_111 : ∀ x ∈ K_111, ie_ck 111 "PlayCutter$Queue" false x = true := by decide +kernel
set_option maxRecDepth 100000 in
theorem mk_111 : ie_mck 111 = true := by decide +kernel
set_option maxRecDepth 100000 in
theorem ck_112 : ∀ x ∈ K_112, ie_ck 112 "PlayCutterLaw" false x = true := by decide +kernel
set_option maxRecDepth 100000 in
theorem mk_112 : ie_mck 112 = true := by decide +kernel
set_option maxRecDepth 100000 in
theorem ck_113 : ∀ x ∈ K_113, ie_ck 113 "PlayCutter" false x = true := by decide +kernel
set_option maxRecDepth 100000 in
theorem mk_113 : ie_mck 113 = true := by decide +kernel
set_option maxRecDepth 100000 in
theorem ck_114 : ∀ x ∈ K_114, ie_ck 114 "PlayCutterLaw" false x = true := by decide +kernel
set_option maxRecDepth 100000 in
theorem mk_114 : ie_mck 114 = true := by decide +kernel
set_option maxRecDepth 100000 in
theorem ck_115 : ∀ x ∈ K_115, ie_ck 115 "PlayCutter" false x = true := by decide +kernel
set_option maxRecDepth 100000 in
theorem mk_115 : ie_mck 115 = true := by decide +kernel
set_option maxRecDepth 100000 in
theorem ck_116 : ∀ x ∈ K_116, ie_ck 116 "PlayCutterLaw" false x = true := by decide +kernel
set_option maxRecDepth 100000 in
theorem mk_116 : ie_mck 116 = true := by decide +kernel
set_option maxRecDepth 100000 in
theorem ck_117 : ∀ x ∈ K_117, ie_ck 117 "PlayCutter" false x = true := by decide +kernel
set_option maxRecDepth 100000 in
theorem mk_117 : ie_mck 117 = true := by decide +kernel
set_option maxRecDepth 100000 in
theorem ck_118 : ∀ x ∈ K_118, ie_ck 118 "PlayCutterLaw" false x = true := by decide +kernel
set_option maxRecDepth 100000 in
theorem mk_118 : ie_mck 118 = true := by decide +kernel
set_option maxRecDepth 100000 in
theorem ck_119 : ∀ x ∈ K_119, ie_ck 119 "PlayCutter" false x = true := by decide +kernel
set_option maxRecDepth 100000 in
theorem mk_119 : ie_mck 119 = true := by decide +kernel
set_option maxRecDepth 100000 in
theorem ck_120 : ∀ x ∈ K_120, ie_ck 120 "PlayCutter" false x = true := by decide +kernel
set_option maxRecDepth 100000 in
theorem mk_120 : ie_mck 120 = true := by decide +kernel
set_option maxRecDepth 100000 in
theorem ck_121 : ∀ x ∈ K_121, ie_ck 121 "PlayCutterLaw" false x = true := by decide +kernel
set_option maxRecDepth 100000 in
theorem mk_121 : ie_mck 121 = true := by decide +kernel
set_option maxRecDepth 100000 in
theorem ck_122 : ∀ x ∈ K_122, ie_ck 122 "PlayCutter" false x = true := by decide +kernel
set_option maxRecDepth 100000 in
theorem mk_122 : ie_mck 122 = true := by decide +kernel
set_option maxRecDepth 100000 in
theorem ck_123 : ∀ x ∈ K_123, ie_ck 123 "PlayCutter" false x = true := by decide +kernel
set_option maxRecDepth 100000 in
theorem mk_123 : ie_mck 123 = true := by decide +kernel
set_option maxRecDepth 100000 in
theorem ck_124 : ∀ x ∈ K_124, ie_ck 124 "PlayCutterLaw" false x = true := by decide +kernel
set_option maxRecDepth 100000 in
theorem mk_124 : ie_mck 124 = true := by decide +kernel
set_option maxRecDepth 100000 in
theorem ck_125 : ∀ x ∈ K_125, ie_ck 125 "PlayCutter" false x = true := by decide +kernel
set_option maxRecDepth 100000 in
theorem mk_125 : ie_mck 125 = true := by decide +kernel
set_option maxRecDepth 100000 in
theorem ck_126 : ∀ x ∈ K_126, ie_ck 126 "PlayCutter$Queue" false x = true := by decide +kernel
set_option maxRecDepth 100000 in
theorem mk_126 : ie_mck 126 = true := by decide +kernel
set_option maxRecDepth 100000 in
theorem ck_127 : ∀ x ∈ K_127, ie_ck 127 "PlayCutterLaw" false x = true := by decide +kernel
set_option maxRecDepth 100000 in
theorem mk_127 : ie_mck 127 = true := by decide +kernel
set_option maxRecDepth 100000 in
theorem ck_128 : ∀ x ∈ K_128, ie_ck 128 "PlayCutter" false x = true := by decide +kernel
set_option maxRecDepth 100000 in
theorem mk_128 : ie_mck 128 = true := by decide +kernel
set_option maxRecDepth 100000 in
theorem ck_129 : ∀ x ∈ K_129, ie_ck 129 "PlayCutter$Statement" false x = true := by decide +kernel
set_option maxRecDepth 100000 in
theorem mk_129 : ie_mck 129 = true := by decide +kernel
set_option maxRecDepth 100000 in
theorem ck_130 : ∀ x ∈ K_130, ie_ck 130 "PlayCutter$Statement" false x = true := by decide +kernel
set_option maxRecDepth 100000 in
theorem mk_130 : ie_mck 130 = true := by decide +kernel
set_option maxRecDepth 100000 in
theorem ck_131 : ∀ x ∈ K_131, ie_ck 131 "PlayCutterLaw" false x = true := by decide +kernel
set_option maxRecDepth 100000 in
theorem mk_131 : ie_mck 131 = true := by decide +kernel
set_option maxRecDepth 100000 in
theorem ck_132 : ∀ x ∈ K_132, ie_ck 132 "PlayCutter" false x = true := by decide +kernel
set_option maxRecDepth 100000 in
theorem mk_132 : ie_mck 132 = true := by decide +kernel
set_option maxRecDepth 100000 in
theorem ck_133 : ∀ x ∈ K_133, ie_ck 133 "PlayCutterModel" true x = true := by decide +kernel
set_option maxRecDepth 100000 in
theorem mk_133 : ie_mck 133 = true := by decide +kernel
set_option maxRecDepth 100000 in
theorem ck_134 : ∀ x ∈ K_134, ie_ck 134 "PlayCutterModel" false x = true := by decide +kernel
set_option maxRecDepth 100000 in
theorem mk_134 : ie_mck 134 = true := by decide +kernel
set_option maxRecDepth 100000 in
theorem ck_135 : ∀ x ∈ K_135, ie_ck 135 "PlayCutterModel" false x = true := by decide +kernel
set_option maxRecDepth 100000 in
theorem mk_135 : ie_mck 135 = true := by decide +kernel
set_option maxRecDepth 100000 in
theorem ck_136 : ∀ x ∈ K_136, ie_ck 136 "PlayCutterModel" false x = true := by decide +kernel
set_option maxRecDepth 100000 in
theorem mk_136 : ie_mck 136 = true := by decide +kernel
set_option maxRecDepth 100000 in
theorem ck_137 : ∀ x ∈ K_137, ie_ck 137 "PlayCutterModel" false x = true := by decide +kernel
set_option maxRecDepth 100000 in
theorem mk_137 : ie_mck 137 = true := by decide +kernel
