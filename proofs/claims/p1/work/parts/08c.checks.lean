set_option maxRecDepth 100000 in
theorem ck_69 : ∀ x ∈ K_69, ie_ck 69 "PlayCutter$PartText" false x = true := by decide +kernel
set_option maxRecDepth 100000 in
theorem mk_69 : ie_mck 69 = true := by decide +kernel
set_option maxRecDepth 100000 in
theorem ck_70 : ∀ x ∈ K_70, ie_ck 70 "PlayCutter$PartText" false x = true := by decide +kernel
set_option maxRecDepth 100000 in
theorem mk_70 : ie_mck 70 = true := by decide +kernel
set_option maxRecDepth 100000 in
theorem ck_71 : ∀ x ∈ K_71, ie_ck 71 "PlayCutter$PartText" false x = true := by decide +kernel
set_option maxRecDepth 100000 in
theorem mk_71 : ie_mck 71 = true := by decide +kernel
set_option maxRecDepth 100000 in
theorem ck_72 : ∀ x ∈ K_72, ie_ck 72 "PlayCutter$PartText" false x = true := by decide +kernel
set_option maxRecDepth 100000 in
theorem mk_72 : ie_mck 72 = true := by decide +kernel
set_option maxRecDepth 100000 in
theorem ck_73 : ∀ x ∈ K_73, ie_ck 73 "PlayCutter$PartText" false x = true := by decide +kernel
set_option maxRecDepth 100000 in
theorem mk_73 : ie_mck 73 = true := by decide +kernel
set_option maxRecDepth 100000 in
theorem ck_74 : ∀ x ∈ K_74, ie_ck 74 "PlayCutter$PartText" false x = true := by decide +kernel
set_option maxRecDepth 100000 in
theorem mk_74 : ie_mck 74 = true := by decide +kernel
set_option maxRecDepth 100000 in
theorem ck_75 : ∀ x ∈ K_75, ie_ck 75 "PlayCutter" false x = true := by decide +kernel
set_option maxRecDepth 100000 in
theorem mk_75 : ie_mck 75 = true := by decide +kernel
set_option maxRecDepth 100000 in
theorem ck_76 : ∀ x ∈ K_76, ie_ck 76 "PlayCutter$Stage" false x = true := by decide +kernel
set_option maxRecDepth 100000 in
theorem mk_76 : ie_mck 76 = true := by decide +kernel
set_option maxRecDepth 100000 in
theorem ck_77 : ∀ x ∈ K_77, ie_ck 77 "PlayCutter$Party" false x = true := by decide +kernel
set_option maxRecDepth 100000 in
theorem mk_77 : ie_mck 77 = true := by decide +kernel
set_option maxRecDepth 100000 in
theorem ck_78 : ∀ x ∈ K_78, ie_ck 78 "PlayCutterLaw" false x = true := by decide +kernel
set_option maxRecDepth 100000 in
theorem mk_78 : ie_mck 78 = true := by decide +kernel
set_option maxRecDepth 100000 in
theorem ck_79 : ∀ x ∈ K_79, ie_ck 79 "PlayCutter" false x = true := by decide +kernel
set_option maxRecDepth 100000 in
theorem mk_79 : ie_mck 79 = true := by decide +kernel
set_option maxRecDepth 100000 in
theorem ck_80 : ∀ x ∈ K_80, ie_ck 80 "PlayCutter" false x = true := by decide +kernel
set_option maxRecDepth 100000 in
theorem mk_80 : ie_mck 80 = true := by decide +kernel
set_option maxRecDepth 100000 in
theorem ck_81 : ∀ x ∈ K_81, ie_ck 81 "PlayCutter" false x = true := by decide +kernel
set_option maxRecDepth 100000 in
theorem mk_81 : ie_mck 81 = true := by decide +kernel
set_option maxRecDepth 100000 in
theorem ck_82 : ∀ x ∈ K_82, ie_ck 82 "PlayCutterLaw" false x = true := by decide +kernel
set_option maxRecDepth 100000 in
theorem mk_82 : ie_mck 82 = true := by decide +kernel
set_option maxRecDepth 100000 in
theorem ck_83 : ∀ x ∈ K_83, ie_ck 83 "PlayCutter" false x = true := by decide +kernel
set_option maxRecDepth 100000 in
theorem mk_83 : ie_mck 83 = true := by decide +kernel
set_option maxRecDepth 100000 in
theorem ck_84 : ∀ x ∈ K_84, ie_ck 84 "PlayCutterLaw" false x = true := by decide +kernel
set_option maxRecDepth 100000 in
theorem mk_84 : ie_mck 84 = true := by decide +kernel
set_option maxRecDepth 100000 in
theorem ck_85 : ∀ x ∈ K_85, ie_ck 85 "PlayCutter" false x = true := by decide +kernel
set_option maxRecDepth 100000 in
theorem mk_85 : ie_mck 85 = true := by decide +kernel
set_option maxRecDepth 100000 in
theorem ck_86 : ∀ x ∈ K_86, ie_ck 86 "PlayCutter" false x = true := by decide +kernel
set_option maxRecDepth 100000 in
theorem mk_86 : ie_mck 86 = true := by decide +kernel
set_option maxRecDepth 100000 in
theorem ck_87 : ∀ x ∈ K_87, ie_ck 87 "PlayCutter" false x = true := by decide +kernel
set_option maxRecDepth 100000 in
theorem mk_87 : ie_mck 87 = true := by decide +kernel
set_option maxRecDepth 100000 in
theorem ck_88 : ∀ x ∈ K_88, ie_ck 88 "PlayCutter" false x = true := by decide +kernel
set_option maxRecDepth 100000 in
theorem mk_88 : ie_mck 88 = true := by decide +kernel
set_option maxRecDepth 100000 in
theorem ck_89 : ∀ x ∈ K_89, ie_ck 89 "PlayCutterLaw" false x = true := by decide +kernel
set_option maxRecDepth 100000 in
theorem mk_89 : ie_mck 89 = true := by decide +kernel
set_option maxRecDepth 100000 in
theorem ck_90 : ∀ x ∈ K_90, ie_ck 90 "PlayCutter" false x = true := by decide +kernel
set_option maxRecDepth 100000 in
theorem mk_90 : ie_mck 90 = true := by decide +kernel
set_option maxRecDepth 100000 in
theorem ck_91 : ∀ x ∈ K_91, ie_ck 91 "PlayCutterLaw" false x = true := by decide +kernel
set_option maxRecDepth 100000 in
theorem mk_91 : ie_mck 91 = true := by decide +kernel
set_option maxRecDepth 100000 in
theorem ck_92 : ∀ x ∈ K_92, ie_ck 92 "PlayCutter" false x = true := by decide +kernel
set_option maxRecDepth 100000 in
theorem mk_92 : ie_mck 92 = true := by decide +kernel
set_option maxRecDepth 100000 in
theorem ck_93 : ∀ x ∈ K_93, ie_ck 93 "PlayCutterLaw" false x = true := by decide +kernel
set_option maxRecDepth 100000 in
theorem mk_93 : ie_mck 93 = true := by decide +kernel
set_option maxRecDepth 100000 in
theorem ck_94 : ∀ x ∈ K_94, ie_ck 94 "PlayCutter" false x = true := by decide +kernel
set_option maxRecDepth 100000 in
theorem mk_94 : ie_mck 94 = true := by decide +kernel
set_option maxRecDepth 100000 in
theorem ck_95 : ∀ x ∈ K_95, ie_ck 95 "PlayCutter$Stage" false x = true := by decide +kernel
set_option maxRecDepth 100000 in
theorem mk_95 : ie_mck 95 = true := by decide +kernel
set_option maxRecDepth 100000 in
theorem ck_96 : ∀ x ∈ K_96, ie_ck 96 "PlayCutter$Stage" false x = true := by decide +kernel
set_option maxRecDepth 100000 in
theorem mk_96 : ie_mck 96 = true := by decide +kernel
set_option maxRecDepth 100000 in
theorem ck_97 : ∀ x ∈ K_97, ie_ck 97 "PlayCutter$Stage" false x = true := by decide +kernel
set_option maxRecDepth 100000 in
theorem mk_97 : ie_mck 97 = true := by decide +kernel
set_option maxRecDepth 100000 in
theorem ck_98 : ∀ x ∈ K_98, ie_ck 98 "PlayCutter$Expression" false x = true := by decide +kernel
set_option maxRecDepth 100000 in
theorem mk_98 : ie_mck 98 = true := by decide +kernel
set_option maxRecDepth 100000 in
theorem ck_99 : ∀ x ∈ K_99, ie_ck 99 "PlayCutter$Expression" false x = true := by decide +kernel
set_option maxRecDepth 100000 in
theorem mk_99 : ie_mck 99 = true := by decide +kernel
set_option maxRecDepth 100000 in
theorem ck_100 : ∀ x ∈ K_100, ie_ck 100 "PlayCutter$Expression" false x = true := by decide +kernel
set_option maxRecDepth 100000 in
theorem mk_100 : ie_mck 100 = true := by decide +kernel
set_option maxRecDepth 100000 in
theorem ck_101 : ∀ x ∈ K_101, ie_ck 101 "PlayCutter$Expression" false x = true := by decide +kernel
set_option maxRecDepth 100000 in
theorem mk_101 : ie_mck 101 = true := by decide +kernel
set_option maxRecDepth 100000 in
theorem ck_102 : ∀ x ∈ K_102, ie_ck 102 "PlayCutter$Stage" false x = true := by decide +kernel
set_option maxRecDepth 100000 in
theorem mk_102 : ie_mck 102 = true := by decide +kernel
set_option maxRecDepth 100000 in
theorem ck_103 : ∀ x ∈ K_103, ie_ck 103 "PlayCutter$Stage" false x = true := by decide +kernel
set_option maxRecDepth 100000 in
theorem mk_103 : ie_mck 103 = true := by decide +kernel
set_option maxRecDepth 100000 in
theorem ck_104 : ∀ x ∈ K_104, ie_ck 104 "PlayCutter$Stage" false x = true := by decide +kernel
set_option maxRecDepth 100000 in
theorem mk_104 : ie_mck 104 = true := by decide +kernel
set_option maxRecDepth 100000 in
theorem ck_105 : ∀ x ∈ K_105, ie_ck 105 "PlayCutter$Queue" false x = true := by decide +kernel
set_option maxRecDepth 100000 in
theorem mk_105 : ie_mck 105 = true := by decide +kernel
set_option maxRecDepth 100000 in
theorem ck_106 : ∀ x ∈ K_106, ie_ck 106 "PlayCutter$Action" false x = true := by decide +kernel
set_option maxRecDepth 100000 in
theorem mk_106 : ie_mck 106 = true := by decide +kernel
set_option maxRecDepth 100000 in
theorem ck_107 : ∀ x ∈ K_107, ie_ck 107 "PlayCutter$Stage" false x = true := by decide +kernel
set_option maxRecDepth 100000 in
theorem mk_107 : ie_mck 107 = true := by decide +kernel
set_option maxRecDepth 100000 in
theorem ck_108 : ∀ x ∈ K_108, ie_ck 108 "PlayCutter$Action" false x = true := by decide +kernel
set_option maxRecDepth 100000 in
theorem mk_108 : ie_mck 108 = true := by decide +kernel
set_option maxRecDepth 100000 in
theorem ck_109 : ∀ x ∈ K_109, ie_ck 109 "PlayCutter$Stage" false x = true := by decide +kernel
set_option maxRecDepth 100000 in
theorem mk_109 : ie_mck 109 = true := by decide +kernel
