set_option maxRecDepth 100000 in
theorem ck_39 : ∀ x ∈ K_39, ie_ck 39 "PlayCutter$Cutter" false x = true := by decide +kernel
set_option maxRecDepth 100000 in
theorem mk_39 : ie_mck 39 = true := by decide +kernel
set_option maxRecDepth 100000 in
theorem ck_40 : ∀ x ∈ K_40, ie_ck 40 "PlayCutter$Action" true x = true := by decide +kernel
set_option maxRecDepth 100000 in
theorem mk_40 : ie_mck 40 = true := by decide +kernel
set_option maxRecDepth 100000 in
theorem ck_41 : ∀ x ∈ K_41, ie_ck 41 "PlayCutter$Action" false x = true := by decide +kernel
set_option maxRecDepth 100000 in
theorem mk_41 : ie_mck 41 = true := by decide +kernel
set_option maxRecDepth 100000 in
theorem ck_42 : ∀ x ∈ K_42, ie_ck 42 "PlayCutter$Row" false x = true := by decide +kernel
set_option maxRecDepth 100000 in
theorem mk_42 : ie_mck 42 = true := by decide +kernel
set_option maxRecDepth 100000 in
theorem ck_43 : ∀ x ∈ K_43, ie_ck 43 "PlayCutter$Action" false x = true := by decide +kernel
set_option maxRecDepth 100000 in
theorem mk_43 : ie_mck 43 = true := by decide +kernel
set_option maxRecDepth 100000 in
theorem ck_44 : ∀ x ∈ K_44, ie_ck 44 "PlayCutter$Cutter" false x = true := by decide +kernel
set_option maxRecDepth 100000 in
theorem mk_44 : ie_mck 44 = true := by decide +kernel
set_option maxRecDepth 100000 in
theorem ck_45 : ∀ x ∈ K_45, ie_ck 45 "PlayCutter$Action" false x = true := by decide +kernel
set_option maxRecDepth 100000 in
theorem mk_45 : ie_mck 45 = true := by decide +kernel
set_option maxRecDepth 100000 in
theorem ck_46 : ∀ x ∈ K_46, ie_ck 46 "PlayCutter$Row" false x = true := by decide +kernel
set_option maxRecDepth 100000 in
theorem mk_46 : ie_mck 46 = true := by decide +kernel
set_option maxRecDepth 100000 in
theorem ck_47 : ∀ x ∈ K_47, ie_ck 47 "PlayCutter$Action" false x = true := by decide +kernel
set_option maxRecDepth 100000 in
theorem mk_47 : ie_mck 47 = true := by decide +kernel
set_option maxRecDepth 100000 in
theorem ck_48 : ∀ x ∈ K_48, ie_ck 48 "PlayCutter$Cutter" false x = true := by decide +kernel
set_option maxRecDepth 100000 in
theorem mk_48 : ie_mck 48 = true := by decide +kernel
set_option maxRecDepth 100000 in
theorem ck_49 : ∀ x ∈ K_49, ie_ck 49 "PlayCutter" false x = true := by decide +kernel
set_option maxRecDepth 100000 in
theorem mk_49 : ie_mck 49 = true := by decide +kernel
set_option maxRecDepth 100000 in
theorem ck_50 : ∀ x ∈ K_50, ie_ck 50 "PlayCutter$Cutter" false x = true := by decide +kernel
set_option maxRecDepth 100000 in
theorem mk_50 : ie_mck 50 = true := by decide +kernel
set_option maxRecDepth 100000 in
theorem ck_51 : ∀ x ∈ K_51, ie_ck 51 "PlayCutter$Cutter" false x = true := by decide +kernel
set_option maxRecDepth 100000 in
theorem mk_51 : ie_mck 51 = true := by decide +kernel
set_option maxRecDepth 100000 in
theorem ck_52 : ∀ x ∈ K_52, ie_ck 52 "PlayCutter$Action" false x = true := by decide +kernel
set_option maxRecDepth 100000 in
theorem mk_52 : ie_mck 52 = true := by decide +kernel
set_option maxRecDepth 100000 in
theorem ck_53 : ∀ x ∈ K_53, ie_ck 53 "PlayCutter$Action" false x = true := by decide +kernel
set_option maxRecDepth 100000 in
theorem mk_53 : ie_mck 53 = true := by decide +kernel
set_option maxRecDepth 100000 in
theorem ck_54 : ∀ x ∈ K_54, ie_ck 54 "PlayCutter$Action" false x = true := by decide +kernel
set_option maxRecDepth 100000 in
theorem mk_54 : ie_mck 54 = true := by decide +kernel
set_option maxRecDepth 100000 in
theorem ck_55 : ∀ x ∈ K_55, ie_ck 55 "PlayCutter$Action" false x = true := by decide +kernel
set_option maxRecDepth 100000 in
theorem mk_55 : ie_mck 55 = true := by decide +kernel
set_option maxRecDepth 100000 in
theorem ck_56 : ∀ x ∈ K_56, ie_ck 56 "PlayCutter$Cutter" false x = true := by decide +kernel
set_option maxRecDepth 100000 in
theorem mk_56 : ie_mck 56 = true := by decide +kernel
set_option maxRecDepth 100000 in
theorem ck_57 : ∀ x ∈ K_57, ie_ck 57 "PlayCutter$Cutter" false x = true := by decide +kernel
set_option maxRecDepth 100000 in
theorem mk_57 : ie_mck 57 = true := by decide +kernel
set_option maxRecDepth 100000 in
theorem ck_58 : ∀ x ∈ K_58, ie_ck 58 "java/lang/Integer" false x = true := by decide +kernel
set_option maxRecDepth 100000 in
theorem mk_58 : ie_mck 58 = true := by decide +kernel
set_option maxRecDepth 100000 in
theorem ck_59 : ∀ x ∈ K_59, ie_ck 59 "PlayCutter$Cutter" false x = true := by decide +kernel
set_option maxRecDepth 100000 in
theorem mk_59 : ie_mck 59 = true := by decide +kernel
set_option maxRecDepth 100000 in
theorem ck_60 : ∀ x ∈ K_60, ie_ck 60 "PlayCutter$Cutter" false x = true := by decide +kernel
set_option maxRecDepth 100000 in
theorem mk_60 : ie_mck 60 = true := by decide +kernel
set_option maxRecDepth 100000 in
theorem ck_61 : ∀ x ∈ K_61, ie_ck 61 "PlayCutter$Action" false x = true := by decide +kernel
set_option maxRecDepth 100000 in
theorem mk_61 : ie_mck 61 = true := by decide +kernel
set_option maxRecDepth 100000 in
theorem ck_62 : ∀ x ∈ K_62, ie_ck 62 "PlayCutter$Action" false x = true := by decide +kernel
set_option maxRecDepth 100000 in
theorem mk_62 : ie_mck 62 = true := by decide +kernel
set_option maxRecDepth 100000 in
theorem ck_63 : ∀ x ∈ K_63, ie_ck 63 "PlayCutter$Statement" false x = true := by decide +kernel
set_option maxRecDepth 100000 in
theorem mk_63 : ie_mck 63 = true := by decide +kernel
set_option maxRecDepth 100000 in
theorem ck_64 : ∀ x ∈ K_64, ie_ck 64 "PlayCutter$Stage" false x = true := by decide +kernel
set_option maxRecDepth 100000 in
theorem mk_64 : ie_mck 64 = true := by decide +kernel
set_option maxRecDepth 100000 in
theorem ck_65 : ∀ x ∈ K_65, ie_ck 65 "PlayCutter$Action" false x = true := by decide +kernel
set_option maxRecDepth 100000 in
theorem mk_65 : ie_mck 65 = true := by decide +kernel
set_option maxRecDepth 100000 in
theorem ck_66 : ∀ x ∈ K_66, ie_ck 66 "PlayCutter$Action" false x = true := by decide +kernel
set_option maxRecDepth 100000 in
theorem mk_66 : ie_mck 66 = true := by decide +kernel
set_option maxRecDepth 100000 in
theorem ck_67 : ∀ x ∈ K_67, ie_ck 67 "PlayCutter$PartText" false x = true := by decide +kernel
set_option maxRecDepth 100000 in
theorem mk_67 : ie_mck 67 = true := by decide +kernel
set_option maxRecDepth 100000 in
theorem ck_68 : ∀ x ∈ K_68, ie_ck 68 "PlayCutter$PartText" false x = true := by decide +kernel
set_option maxRecDepth 100000 in
theorem mk_68 : ie_mck 68 = true := by decide +kernel
