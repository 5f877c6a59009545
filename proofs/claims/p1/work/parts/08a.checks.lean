set_option maxRecDepth 100000 in
theorem ck_0 : ∀ x ∈ K_0, ie_ck 0 "PlayCutter" true x = true := by decide +kernel
set_option maxRecDepth 100000 in
theorem mk_0 : ie_mck 0 = true := by decide +kernel
set_option maxRecDepth 100000 in
theorem ck_1 : ∀ x ∈ K_1, ie_ck 1 "PlayCutter$Stage" true x = true := by decide +kernel
set_option maxRecDepth 100000 in
theorem mk_1 : ie_mck 1 = true := by decide +kernel
set_option maxRecDepth 100000 in
theorem ck_2 : ∀ x ∈ K_2, ie_ck 2 "PlayCutter$Party" true x = true := by decide +kernel
set_option maxRecDepth 100000 in
theorem mk_2 : ie_mck 2 = true := by decide +kernel
set_option maxRecDepth 100000 in
theorem ck_3 : ∀ x ∈ K_3, ie_ck 3 "PlayCutter$PartText" true x = true := by decide +kernel
set_option maxRecDepth 100000 in
theorem mk_3 : ie_mck 3 = true := by decide +kernel
set_option maxRecDepth 100000 in
theorem ck_4 : ∀ x ∈ K_4, ie_ck 4 "PlayCutter$Queue" true x = true := by decide +kernel
set_option maxRecDepth 100000 in
theorem mk_4 : ie_mck 4 = true := by decide +kernel
set_option maxRecDepth 100000 in
theorem ck_5 : ∀ x ∈ K_5, ie_ck 5 "PlayCutter" false x = true := by decide +kernel
set_option maxRecDepth 100000 in
theorem mk_5 : ie_mck 5 = true := by decide +kernel
set_option maxRecDepth 100000 in
theorem ck_6 : ∀ x ∈ K_6, ie_ck 6 "PlayCutter" false x = true := by decide +kernel
set_option maxRecDepth 100000 in
theorem mk_6 : ie_mck 6 = true := by decide +kernel
set_option maxRecDepth 100000 in
theorem ck_7 : ∀ x ∈ K_7, ie_ck 7 "PlayCutter" false x = true := by decide +kernel
set_option maxRecDepth 100000 in
theorem mk_7 : ie_mck 7 = true := by decide +kernel
set_option maxRecDepth 100000 in
theorem ck_8 : ∀ x ∈ K_8, ie_ck 8 "PlayCutter" false x = true := by decide +kernel
set_option maxRecDepth 100000 in
theorem mk_8 : ie_mck 8 = true := by decide +kernel
set_option maxRecDepth 100000 in
theorem ck_9 : ∀ x ∈ K_9, ie_ck 9 "PlayCutterLaw" false x = true := by decide +kernel
set_option maxRecDepth 100000 in
theorem mk_9 : ie_mck 9 = true := by decide +kernel
set_option maxRecDepth 100000 in
theorem ck_10 : ∀ x ∈ K_10, ie_ck 10 "PlayCutter" false x = true := by decide +kernel
set_option maxRecDepth 100000 in
theorem mk_10 : ie_mck 10 = true := by decide +kernel
set_option maxRecDepth 100000 in
theorem ck_11 : ∀ x ∈ K_11, ie_ck 11 "PlayCutter$PlayReader" true x = true := by decide +kernel
set_option maxRecDepth 100000 in
theorem mk_11 : ie_mck 11 = true := by decide +kernel
set_option maxRecDepth 100000 in
theorem ck_12 : ∀ x ∈ K_12, ie_ck 12 "PlayCutter$PlayReader" false x = true := by decide +kernel
set_option maxRecDepth 100000 in
theorem mk_12 : ie_mck 12 = true := by decide +kernel
set_option maxRecDepth 100000 in
theorem ck_13 : ∀ x ∈ K_13, ie_ck 13 "PlayCutter$PlayReader" false x = true := by decide +kernel
set_option maxRecDepth 100000 in
theorem mk_13 : ie_mck 13 = true := by decide +kernel
set_option maxRecDepth 100000 in
theorem ck_14 : ∀ x ∈ K_14, ie_ck 14 "PlayCutter$PlayReader" false x = true := by decide +kernel
set_option maxRecDepth 100000 in
theorem mk_14 : ie_mck 14 = true := by decide +kernel
set_option maxRecDepth 100000 in
theorem ck_15 : ∀ x ∈ K_15, ie_ck 15 "PlayCutter$PlayReader" false x = true := by decide +kernel
set_option maxRecDepth 100000 in
theorem mk_15 : ie_mck 15 = true := by decide +kernel
set_option maxRecDepth 100000 in
theorem ck_16 : ∀ x ∈ K_16, ie_ck 16 "PlayCutter$PlayReader" false x = true := by decide +kernel
set_option maxRecDepth 100000 in
theorem mk_16 : ie_mck 16 = true := by decide +kernel
set_option maxRecDepth 100000 in
theorem ck_17 : ∀ x ∈ K_17, ie_ck 17 "PlayCutter$Statement" true x = true := by decide +kernel
set_option maxRecDepth 100000 in
theorem mk_17 : ie_mck 17 = true := by decide +kernel
set_option maxRecDepth 100000 in
theorem ck_18 : ∀ x ∈ K_18, ie_ck 18 "PlayCutter$PlayReader" false x = true := by decide +kernel
set_option maxRecDepth 100000 in
theorem mk_18 : ie_mck 18 = true := by decide +kernel
set_option maxRecDepth 100000 in
theorem ck_19 : ∀ x ∈ K_19, ie_ck 19 "PlayCutter$PlayReader" false x = true := by decide +kernel
set_option maxRecDepth 100000 in
theorem mk_19 : ie_mck 19 = true := by decide +kernel
set_option maxRecDepth 100000 in
theorem ck_20 : ∀ x ∈ K_20, ie_ck 20 "PlayCutter$PlayReader" false x = true := by decide +kernel
set_option maxRecDepth 100000 in
theorem mk_20 : ie_mck 20 = true := by decide +kernel
set_option maxRecDepth 100000 in
theorem ck_21 : ∀ x ∈ K_21, ie_ck 21 "PlayCutter$PlayReader" false x = true := by decide +kernel
set_option maxRecDepth 100000 in
theorem mk_21 : ie_mck 21 = true := by decide +kernel
set_option maxRecDepth 100000 in
theorem ck_22 : ∀ x ∈ K_22, ie_ck 22 "PlayCutter$PlayReader" false x = true := by decide +kernel
set_option maxRecDepth 100000 in
theorem mk_22 : ie_mck 22 = true := by decide +kernel
set_option maxRecDepth 100000 in
theorem ck_23 : ∀ x ∈ K_23, ie_ck 23 "PlayCutter$PlayReader" false x = true := by decide +kernel
set_option maxRecDepth 100000 in
theorem mk_23 : ie_mck 23 = true := by decide +kernel
set_option maxRecDepth 100000 in
theorem ck_24 : ∀ x ∈ K_24, ie_ck 24 "PlayCutter$PlayReader" false x = true := by decide +kernel
set_option maxRecDepth 100000 in
theorem mk_24 : ie_mck 24 = true := by decide +kernel
set_option maxRecDepth 100000 in
theorem ck_25 : ∀ x ∈ K_25, ie_ck 25 "PlayCutter$Expression" false x = true := by decide +kernel
set_option maxRecDepth 100000 in
theorem mk_25 : ie_mck 25 = true := by decide +kernel
set_option maxRecDepth 100000 in
theorem ck_26 : ∀ x ∈ K_26, ie_ck 26 "PlayCutter$PlayReader" false x = true := by decide +kernel
set_option maxRecDepth 100000 in
theorem mk_26 : ie_mck 26 = true := by decide +kernel
set_option maxRecDepth 100000 in
theorem ck_27 : ∀ x ∈ K_27, ie_ck 27 "PlayCutter$Expression" false x = true := by decide +kernel
set_option maxRecDepth 100000 in
theorem mk_27 : ie_mck 27 = true := by decide +kernel
set_option maxRecDepth 100000 in
theorem ck_28 : ∀ x ∈ K_28, ie_ck 28 "PlayCutter$Expression" false x = true := by decide +kernel
set_option maxRecDepth 100000 in
theorem mk_28 : ie_mck 28 = true := by decide +kernel
set_option maxRecDepth 100000 in
theorem ck_29 : ∀ x ∈ K_29, ie_ck 29 "PlayCutter$PlayReader" false x = true := by decide +kernel
set_option maxRecDepth 100000 in
theorem mk_29 : ie_mck 29 = true := by decide +kernel
set_option maxRecDepth 100000 in
theorem ck_30 : ∀ x ∈ K_30, ie_ck 30 "PlayCutter$PlayReader" false x = true := by decide +kernel
set_option maxRecDepth 100000 in
theorem mk_30 : ie_mck 30 = true := by decide +kernel
set_option maxRecDepth 100000 in
theorem ck_31 : ∀ x ∈ K_31, ie_ck 31 "PlayCutter$PlayReader" false x = true := by decide +kernel
set_option maxRecDepth 100000 in
theorem mk_31 : ie_mck 31 = true := by decide +kernel
set_option maxRecDepth 100000 in
theorem ck_32 : ∀ x ∈ K_32, ie_ck 32 "PlayCutter$PlayReader" false x = true := by decide +kernel
set_option maxRecDepth 100000 in
theorem mk_32 : ie_mck 32 = true := by decide +kernel
set_option maxRecDepth 100000 in
theorem ck_33 : ∀ x ∈ K_33, ie_ck 33 "PlayCutter" false x = true := by decide +kernel
set_option maxRecDepth 100000 in
theorem mk_33 : ie_mck 33 = true := by decide +kernel
set_option maxRecDepth 100000 in
theorem ck_34 : ∀ x ∈ K_34, ie_ck 34 "PlayCutter$PlayReader" false x = true := by decide +kernel
set_option maxRecDepth 100000 in
theorem mk_34 : ie_mck 34 = true := by decide +kernel
set_option maxRecDepth 100000 in
theorem ck_35 : ∀ x ∈ K_35, ie_ck 35 "PlayCutter$Cutter" true x = true := by decide +kernel
set_option maxRecDepth 100000 in
theorem mk_35 : ie_mck 35 = true := by decide +kernel
set_option maxRecDepth 100000 in
theorem ck_36 : ∀ x ∈ K_36, ie_ck 36 "PlayCutter$Cutter" false x = true := by decide +kernel
set_option maxRecDepth 100000 in
theorem mk_36 : ie_mck 36 = true := by decide +kernel
set_option maxRecDepth 100000 in
theorem ck_37 : ∀ x ∈ K_37, ie_ck 37 "PlayCutter$Row" true x = true := by decide +kernel
set_option maxRecDepth 100000 in
theorem mk_37 : ie_mck 37 = true := by decide +kernel
set_option maxRecDepth 100000 in
theorem ck_38 : ∀ x ∈ K_38, ie_ck 38 "PlayCutter$Cutter" false x = true := by decide +kernel
set_option maxRecDepth 100000 in
theorem mk_38 : ie_mck 38 = true := by decide +kernel
