def ie_kP (m : Nat) : Prop := ∃ ini : Bool, (ini = true → (ie_y m).name = "<init>") ∧ ∀ x ∈ ie_K.getD m [], decode (ie_by m) x.1 = .ok x.2.1 ∧ ie_ck m (ie_oname (ie_info m).1.1) ini x = true
theorem kx_0 : ie_kP 0 := ⟨true, fun _ => rfl, fun x hx => ⟨kc_0 x hx, ck_0 x hx⟩⟩
theorem kx_1 : ie_kP 1 := ⟨true, fun _ => rfl, fun x hx => ⟨kc_1 x hx, ck_1 x hx⟩⟩
theorem kx_2 : ie_kP 2 := ⟨true, fun _ => rfl, fun x hx => ⟨kc_2 x hx, ck_2 x hx⟩⟩
theorem kx_3 : ie_kP 3 := ⟨true, fun _ => rfl, fun x hx => ⟨kc_3 x hx, ck_3 x hx⟩⟩
theorem kx_4 : ie_kP 4 := ⟨true, fun _ => rfl, fun x hx => ⟨kc_4 x hx, ck_4 x hx⟩⟩
theorem kx_5 : ie_kP 5 := ⟨false, (fun h => nomatch h), fun x hx => ⟨kc_5 x hx, ck_5 x hx⟩⟩
theorem kx_6 : ie_kP 6 := ⟨false, (fun h => nomatch h), fun x hx => ⟨kc_6 x hx, ck_6 x hx⟩⟩
theorem kx_7 : ie_kP 7 := ⟨false, (fun h => nomatch h), fun x hx => ⟨kc_7 x hx, ck_7 x hx⟩⟩
theorem kx_8 : ie_kP 8 := ⟨false, (fun h => nomatch h), fun x hx => ⟨kc_8 x hx, ck_8 x hx⟩⟩
theorem kx_9 : ie_kP 9 := ⟨false, (fun h => nomatch h), fun x hx => ⟨kc_9 x hx, ck_9 x hx⟩⟩
theorem kx_10 : ie_kP 10 := ⟨false, (fun h => nomatch h), fun x hx => ⟨kc_10 x hx, ck_10 x hx⟩⟩
theorem kx_11 : ie_kP 11 := ⟨true, fun _ => rfl, fun x hx => ⟨kc_11 x hx, ck_11 x hx⟩⟩
theorem kx_12 : ie_kP 12 := ⟨false, (fun h => nomatch h), fun x hx => ⟨kc_12 x hx, ck_12 x hx⟩⟩
theorem kx_13 : ie_kP 13 := ⟨false, (fun h => nomatch h), fun x hx => ⟨kc_13 x hx, ck_13 x hx⟩⟩
theorem kx_14 : ie_kP 14 := ⟨false, (fun h => nomatch h), fun x hx => ⟨kc_14 x hx, ck_14 x hx⟩⟩
theorem kx_15 : ie_kP 15 := ⟨false, (fun h => nomatch h), fun x hx => ⟨kc_15 x hx, ck_15 x hx⟩⟩
theorem kx_16 : ie_kP 16 := ⟨false, (fun h => nomatch h), fun x hx => ⟨kc_16 x hx, ck_16 x hx⟩⟩
theorem kx_17 : ie_kP 17 := ⟨true, fun _ => rfl, fun x hx => ⟨kc_17 x hx, ck_17 x hx⟩⟩
theorem kx_18 : ie_kP 18 := ⟨false, (fun h => nomatch h), fun x hx => ⟨kc_18 x hx, ck_18 x hx⟩⟩
theorem kx_19 : ie_kP 19 := ⟨false, (fun h => nomatch h), fun x hx => ⟨kc_19 x hx, ck_19 x hx⟩⟩
theorem kx_20 : ie_kP 20 := ⟨false, (fun h => nomatch h), fun x hx => ⟨kc_20 x hx, ck_20 x hx⟩⟩
theorem kx_21 : ie_kP 21 := ⟨false, (fun h => nomatch h), fun x hx => ⟨kc_21 x hx, ck_21 x hx⟩⟩
theorem kx_22 : ie_kP 22 := ⟨false, (fun h => nomatch h), fun x hx => ⟨kc_22 x hx, ck_22 x hx⟩⟩
theorem kx_23 : ie_kP 23 := ⟨false, (fun h => nomatch h), fun x hx => ⟨kc_23 x hx, ck_23 x hx⟩⟩
theorem kx_24 : ie_kP 24 := ⟨false, (fun h => nomatch h), fun x hx => ⟨kc_24 x hx, ck_24 x hx⟩⟩
theorem kx_25 : ie_kP 25 := ⟨false, (fun h => nomatch h), fun x hx => ⟨kc_25 x hx, ck_25 x hx⟩⟩
theorem kx_26 : ie_kP 26 := ⟨false, (fun h => nomatch h), fun x hx => ⟨kc_26 x hx, ck_26 x hx⟩⟩
theorem kx_27 : ie_kP 27 := ⟨false, (fun h => nomatch h), fun x hx => ⟨kc_27 x hx, ck_27 x hx⟩⟩
theorem kx_28 : ie_kP 28 := ⟨false, (fun h => nomatch h), fun x hx => ⟨kc_28 x hx, ck_28 x hx⟩⟩
theorem kx_29 : ie_kP 29 := ⟨false, (fun h => nomatch h), fun x hx => ⟨kc_29 x hx, ck_29 x hx⟩⟩
theorem kx_30 : ie_kP 30 := ⟨false, (fun h => nomatch h), fun x hx => ⟨kc_30 x hx, ck_30 x hx⟩⟩
theorem kx_31 : ie_kP 31 := ⟨false, (fun h => nomatch h), fun x hx => ⟨kc_31 x hx, ck_31 x hx⟩⟩
theorem kx_32 : ie_kP 32 := ⟨false, (fun h => nomatch h), fun x hx => ⟨kc_32 x hx, ck_32 x hx⟩⟩
theorem kx_33 : ie_kP 33 := ⟨false, (fun h => nomatch h), fun x hx => ⟨kc_33 x hx, ck_33 x hx⟩⟩
theorem kx_34 : ie_kP 34 := ⟨false, (fun h => nomatch h), fun x hx => ⟨kc_34 x hx, ck_34 x hx⟩⟩
theorem kx_35 : ie_kP 35 := ⟨true, fun _ => rfl, fun x hx => ⟨kc_35 x hx, ck_35 x hx⟩⟩
theorem kx_36 : ie_kP 36 := ⟨false, (fun h => nomatch h), fun x hx => ⟨kc_36 x hx, ck_36 x hx⟩⟩
theorem kx_37 : ie_kP 37 := ⟨true, fun _ => rfl, fun x hx => ⟨kc_37 x hx, ck_37 x hx⟩⟩
theorem kx_38 : ie_kP 38 := ⟨false, (fun h => nomatch h), fun x hx => ⟨kc_38 x hx, ck_38 x hx⟩⟩
theorem kx_39 : ie_kP 39 := ⟨false, (fun h => nomatch h), fun x hx => ⟨kc_39 x hx, ck_39 x hx⟩⟩
theorem kx_40 : ie_kP 40 := ⟨true, fun _ => rfl, fun x hx => ⟨kc_40 x hx, ck_40 x hx⟩⟩
theorem kx_41 : ie_kP 41 := ⟨false, (fun h => nomatch h), fun x hx => ⟨kc_41 x hx, ck_41 x hx⟩⟩
theorem kx_42 : ie_kP 42 := ⟨false, (fun h => nomatch h), fun x hx => ⟨kc_42 x hx, ck_42 x hx⟩⟩
theorem kx_43 : ie_kP 43 := ⟨false, (fun h => nomatch h), fun x hx => ⟨kc_43 x hx, ck_43 x hx⟩⟩
theorem kx_44 : ie_kP 44 := ⟨false, (fun h => nomatch h), fun x hx => ⟨kc_44 x hx, ck_44 x hx⟩⟩
theorem kx_45 : ie_kP 45 := ⟨false, (fun h => nomatch h), fun x hx => ⟨kc_45 x hx, ck_45 x hx⟩⟩
theorem kx_46 : ie_kP 46 := ⟨false, (fun h => nomatch h), fun x hx => ⟨kc_46 x hx, ck_46 x hx⟩⟩
theorem kx_47 : ie_kP 47 := ⟨false, (fun h => nomatch h), fun x hx => ⟨kc_47 x hx, ck_47 x hx⟩⟩
theorem kx_48 : ie_kP 48 := ⟨false, (fun h => nomatch h), fun x hx => ⟨kc_48 x hx, ck_48 x hx⟩⟩
theorem kx_49 : ie_kP 49 := ⟨false, (fun h => nomatch h), fun x hx => ⟨kc_49 x hx, ck_49 x hx⟩⟩
theorem kx_50 : ie_kP 50 := ⟨false, (fun h => nomatch h), fun x hx => ⟨kc_50 x hx, ck_50 x hx⟩⟩
theorem kx_51 : ie_kP 51 := ⟨false, (fun h => nomatch h), fun x hx => ⟨kc_51 x hx, ck_51 x hx⟩⟩
theorem kx_52 : ie_kP 52 := ⟨false, (fun h => nomatch h), fun x hx => ⟨kc_52 x hx, ck_52 x hx⟩⟩
theorem kx_53 : ie_kP 53 := ⟨false, (fun h => nomatch h), fun x hx => ⟨kc_53 x hx, ck_53 x hx⟩⟩
theorem kx_54 : ie_kP 54 := ⟨false, (fun h => nomatch h), fun x hx => ⟨kc_54 x hx, ck_54 x hx⟩⟩
theorem kx_55 : ie_kP 55 := ⟨false, (fun h => nomatch h), fun x hx => ⟨kc_55 x hx, ck_55 x hx⟩⟩
theorem kx_56 : ie_kP 56 := ⟨false, (fun h => nomatch h), fun x hx => ⟨kc_56 x hx, ck_56 x hx⟩⟩
theorem kx_57 : ie_kP 57 := ⟨false, (fun h => nomatch h), fun x hx => ⟨kc_57 x hx, ck_57 x hx⟩⟩
theorem kx_58 : ie_kP 58 := ⟨false, (fun h => nomatch h), fun x hx => ⟨kc_58 x hx, ck_58 x hx⟩⟩
theorem kx_59 : ie_kP 59 := ⟨false, (fun h => nomatch h), fun x hx => ⟨kc_59 x hx, ck_59 x hx⟩⟩
theorem kx_60 : ie_kP 60 := ⟨false, (fun h => nomatch h), fun x hx => ⟨kc_60 x hx, ck_60 x hx⟩⟩
theorem kx_61 : ie_kP 61 := ⟨false, (fun h => nomatch h), fun x hx => ⟨kc_61 x hx, ck_61 x hx⟩⟩
theorem kx_62 : ie_kP 62 := ⟨false, (fun h => nomatch h), fun x hx => ⟨kc_62 x hx, ck_62 x hx⟩⟩
theorem kx_63 : ie_kP 63 := ⟨false, (fun h => nomatch h), fun x hx => ⟨kc_63 x hx, ck_63 x hx⟩⟩
theorem kx_64 : ie_kP 64 := ⟨false, (fun h => nomatch h), fun x hx => ⟨kc_64 x hx, ck_64 x hx⟩⟩
theorem kx_65 : ie_kP 65 := ⟨false, (fun h => nomatch h), fun x hx => ⟨kc_65 x hx, ck_65 x hx⟩⟩
theorem kx_66 : ie_kP 66 := ⟨false, (fun h => nomatch h), fun x hx => ⟨kc_66 x hx, ck_66 x hx⟩⟩
theorem kx_67 : ie_kP 67 := ⟨false, (fun h => nomatch h), fun x hx => ⟨kc_67 x hx, ck_67 x hx⟩⟩
theorem kx_68 : ie_kP 68 := ⟨false, (fun h => nomatch h), fun x hx => ⟨kc_68 x hx, ck_68 x hx⟩⟩
theorem kx_69 : ie_kP 69 := ⟨false, (fun h => nomatch h), fun x hx => ⟨kc_69 x hx, ck_69 x hx⟩⟩
theorem kx_70 : ie_kP 70 := ⟨false, (fun h => nomatch h), fun x hx => ⟨kc_70 x hx, ck_70 x hx⟩⟩
theorem kx_71 : ie_kP 71 := ⟨false, (fun h => nomatch h), fun x hx => ⟨kc_71 x hx, ck_71 x hx⟩⟩
theorem kx_72 : ie_kP 72 := ⟨false, (fun h => nomatch h), fun x hx => ⟨kc_72 x hx, ck_72 x hx⟩⟩
theorem kx_73 : ie_kP 73 := ⟨false, (fun h => nomatch h), fun x hx => ⟨kc_73 x hx, ck_73 x hx⟩⟩
theorem kx_74 : ie_kP 74 := ⟨false, (fun h => nomatch h), fun x hx => ⟨kc_74 x hx, ck_74 x hx⟩⟩
theorem kx_75 : ie_kP 75 := ⟨false, (fun h => nomatch h), fun x hx => ⟨kc_75 x hx, ck_75 x hx⟩⟩
theorem kx_76 : ie_kP 76 := ⟨false, (fun h => nomatch h), fun x hx => ⟨kc_76 x hx, ck_76 x hx⟩⟩
theorem kx_77 : ie_kP 77 := ⟨false, (fun h => nomatch h), fun x hx => ⟨kc_77 x hx, ck_77 x hx⟩⟩
theorem kx_78 : ie_kP 78 := ⟨false, (fun h => nomatch h), fun x hx => ⟨kc_78 x hx, ck_78 x hx⟩⟩
theorem kx_79 : ie_kP 79 := ⟨false, (fun h => nomatch h), fun x hx => ⟨kc_79 x hx, ck_79 x hx⟩⟩
theorem kx_80 : ie_kP 80 := ⟨false, (fun h => nomatch h), fun x hx => ⟨kc_80 x hx, ck_80 x hx⟩⟩
theorem kx_81 : ie_kP 81 := ⟨false, (fun h => nomatch h), fun x hx => ⟨kc_81 x hx, ck_81 x hx⟩⟩
theorem kx_82 : ie_kP 82 := ⟨false, (fun h => nomatch h), fun x hx => ⟨kc_82 x hx, ck_82 x hx⟩⟩
theorem kx_83 : ie_kP 83 := ⟨false, (fun h => nomatch h), fun x hx => ⟨kc_83 x hx, ck_83 x hx⟩⟩
theorem kx_84 : ie_kP 84 := ⟨false, (fun h => nomatch h), fun x hx => ⟨kc_84 x hx, ck_84 x hx⟩⟩
theorem kx_85 : ie_kP 85 := ⟨false, (fun h => nomatch h), fun x hx => ⟨kc_85 x hx, ck_85 x hx⟩⟩
theorem kx_86 : ie_kP 86 := ⟨false, (fun h => nomatch h), fun x hx => ⟨kc_86 x hx, ck_86 x hx⟩⟩
theorem kx_87 : ie_kP 87 := ⟨false, (fun h => nomatch h), fun x hx => ⟨kc_87 x hx, ck_87 x hx⟩⟩
theorem kx_88 : ie_kP 88 := ⟨false, (fun h => nomatch h), fun x hx => ⟨kc_88 x hx, ck_88 x hx⟩⟩
theorem kx_89 : ie_kP 89 := ⟨false, (fun h => nomatch h), fun x hx => ⟨kc_89 x hx, ck_89 x hx⟩⟩
theorem kx_90 : ie_kP 90 := ⟨false, (fun h => nomatch h), fun x hx => ⟨kc_90 x hx, ck_90 x hx⟩⟩
theorem kx_91 : ie_kP 91 := ⟨false, (fun h => nomatch h), fun x hx => ⟨kc_91 x hx, ck_91 x hx⟩⟩
theorem kx_92 : ie_kP 92 := ⟨false, (fun h => nomatch h), fun x hx => ⟨kc_92 x hx, ck_92 x hx⟩⟩
theorem kx_93 : ie_kP 93 := ⟨false, (fun h => nomatch h), fun x hx => ⟨kc_93 x hx, ck_93 x hx⟩⟩
theorem kx_94 : ie_kP 94 := ⟨false, (fun h => nomatch h), fun x hx => ⟨kc_94 x hx, ck_94 x hx⟩⟩
theorem kx_95 : ie_kP 95 := ⟨false, (fun h => nomatch h), fun x hx => ⟨kc_95 x hx, ck_95 x hx⟩⟩
theorem kx_96 : ie_kP 96 := ⟨false, (fun h => nomatch h), fun x hx => ⟨kc_96 x hx, ck_96 x hx⟩⟩
theorem kx_97 : ie_kP 97 := ⟨false, (fun h => nomatch h), fun x hx => ⟨kc_97 x hx, ck_97 x hx⟩⟩
theorem kx_98 : ie_kP 98 := ⟨false, (fun h => nomatch h), fun x hx => ⟨kc_98 x hx, ck_98 x hx⟩⟩
theorem kx_99 : ie_kP 99 := ⟨false, (fun h => nomatch h), fun x hx => ⟨kc_99 x hx, ck_99 x hx⟩⟩
theorem kx_100 : ie_kP 100 := ⟨false, (fun h => nomatch h), fun x hx => ⟨kc_100 x hx, ck_100 x hx⟩⟩
theorem kx_101 : ie_kP 101 := ⟨false, (fun h => nomatch h), fun x hx => ⟨kc_101 x hx, ck_101 x hx⟩⟩
theorem kx_102 : ie_kP 102 := ⟨false, (fun h => nomatch h), fun x hx => ⟨kc_102 x hx, ck_102 x hx⟩⟩
theorem kx_103 : ie_kP 103 := ⟨false, (fun h => nomatch h), fun x hx => ⟨kc_103 x hx, ck_103 x hx⟩⟩
theorem kx_104 : ie_kP 104 := ⟨false, (fun h => nomatch h), fun x hx => ⟨kc_104 x hx, ck_104 x hx⟩⟩
theorem kx_105 : ie_kP 105 := ⟨false, (fun h => nomatch h), fun x hx => ⟨kc_105 x hx, ck_105 x hx⟩⟩
theorem kx_106 : ie_kP 106 := ⟨false, (fun h => nomatch h), fun x hx => ⟨kc_106 x hx, ck_106 x hx⟩⟩
theorem kx_107 : ie_kP 107 := ⟨false, (fun h => nomatch h), fun x hx => ⟨kc_107 x hx, ck_107 x hx⟩⟩
theorem kx_108 : ie_kP 108 := ⟨false, (fun h => nomatch h), fun x hx => ⟨kc_108 x hx, ck_108 x hx⟩⟩
theorem kx_109 : ie_kP 109 := ⟨false, (fun h => nomatch h), fun x hx => ⟨kc_109 x hx, ck_109 x hx⟩⟩
theorem kx_110 : ie_kP 110 := ⟨false, (fun h => nomatch h), fun x hx => ⟨kc_110 x hx, ck_110 x hx⟩⟩
theorem kx_111 : ie_kP 111 := ⟨false, (fun h => nomatch h), fun x hx => ⟨kc_111 x hx, ck_111 x hx⟩⟩
theorem kx_112 : ie_kP 112 := ⟨false, (fun h => nomatch h), fun x hx => ⟨kc_112 x hx, ck_112 x hx⟩⟩
theorem kx_113 : ie_kP 113 := ⟨false, (fun h => nomatch h), fun x hx => ⟨kc_113 x hx, ck_113 x hx⟩⟩
theorem kx_114 : ie_kP 114 := ⟨false, (fun h => nomatch h), fun x hx => ⟨kc_114 x hx, ck_114 x hx⟩⟩
theorem kx_115 : ie_kP 115 := ⟨false, (fun h => nomatch h), fun x hx => ⟨kc_115 x hx, ck_115 x hx⟩⟩
theorem kx_116 : ie_kP 116 := ⟨false, (fun h => nomatch h), fun x hx => ⟨kc_116 x hx, ck_116 x hx⟩⟩
theorem kx_117 : ie_kP 117 := ⟨false, (fun h => nomatch h), fun x hx => ⟨kc_117 x hx, ck_117 x hx⟩⟩
theorem kx_118 : ie_kP 118 := ⟨false, (fun h => nomatch h), fun x hx => ⟨kc_118 x hx, ck_118 x hx⟩⟩
theorem kx_119 : ie_kP 119 := ⟨false, (fun h => nomatch h), fun x hx => ⟨kc_119 x hx, ck_119 x hx⟩⟩
theorem kx_120 : ie_kP 120 := ⟨false, (fun h => nomatch h), fun x hx => ⟨kc_120 x hx, ck_120 x hx⟩⟩
theorem kx_121 : ie_kP 121 := ⟨false, (fun h => nomatch h), fun x hx => ⟨kc_121 x hx, ck_121 x hx⟩⟩
theorem kx_122 : ie_kP 122 := ⟨false, (fun h => nomatch h), fun x hx => ⟨kc_122 x hx, ck_122 x hx⟩⟩
theorem kx_123 : ie_kP 123 := ⟨false, (fun h => nomatch h), fun x hx => ⟨kc_123 x hx, ck_123 x hx⟩⟩
theorem kx_124 : ie_kP 124 := ⟨false, (fun h => nomatch h), fun x hx => ⟨kc_124 x hx, ck_124 x hx⟩⟩
theorem kx_125 : ie_kP 125 := ⟨false, (fun h => nomatch h), fun x hx => ⟨kc_125 x hx, ck_125 x hx⟩⟩
theorem kx_126 : ie_kP 126 := ⟨false, (fun h => nomatch h), fun x hx => ⟨kc_126 x hx, ck_126 x hx⟩⟩
theorem kx_127 : ie_kP 127 := ⟨false, (fun h => nomatch h), fun x hx => ⟨kc_127 x hx, ck_127 x hx⟩⟩
theorem kx_128 : ie_kP 128 := ⟨false, (fun h => nomatch h), fun x hx => ⟨kc_128 x hx, ck_128 x hx⟩⟩
theorem kx_129 : ie_kP 129 := ⟨false, (fun h => nomatch h), fun x hx => ⟨kc_129 x hx, ck_129 x hx⟩⟩
theorem kx_130 : ie_kP 130 := ⟨false, (fun h => nomatch h), fun x hx => ⟨kc_130 x hx, ck_130 x hx⟩⟩
theorem kx_131 : ie_kP 131 := ⟨false, (fun h => nomatch h), fun x hx => ⟨kc_131 x hx, ck_131 x hx⟩⟩
theorem kx_132 : ie_kP 132 := ⟨false, (fun h => nomatch h), fun x hx => ⟨kc_132 x hx, ck_132 x hx⟩⟩
theorem kx_133 : ie_kP 133 := ⟨true, fun _ => rfl, fun x hx => ⟨kc_133 x hx, ck_133 x hx⟩⟩
theorem kx_134 : ie_kP 134 := ⟨false, (fun h => nomatch h), fun x hx => ⟨kc_134 x hx, ck_134 x hx⟩⟩
theorem kx_135 : ie_kP 135 := ⟨false, (fun h => nomatch h), fun x hx => ⟨kc_135 x hx, ck_135 x hx⟩⟩
theorem kx_136 : ie_kP 136 := ⟨false, (fun h => nomatch h), fun x hx => ⟨kc_136 x hx, ck_136 x hx⟩⟩
theorem kx_137 : ie_kP 137 := ⟨false, (fun h => nomatch h), fun x hx => ⟨kc_137 x hx, ck_137 x hx⟩⟩
theorem kx_138 : ie_kP 138 := ⟨false, (fun h => nomatch h), fun x hx => ⟨kc_138 x hx, ck_138 x hx⟩⟩
theorem kx_139 : ie_kP 139 := ⟨false, (fun h => nomatch h), fun x hx => ⟨kc_139 x hx, ck_139 x hx⟩⟩
theorem kx_140 : ie_kP 140 := ⟨false, (fun h => nomatch h), fun x hx => ⟨kc_140 x hx, ck_140 x hx⟩⟩
theorem kx_141 : ie_kP 141 := ⟨false, (fun h => nomatch h), fun x hx => ⟨kc_141 x hx, ck_141 x hx⟩⟩
theorem kx_142 : ie_kP 142 := ⟨false, (fun h => nomatch h), fun x hx => ⟨kc_142 x hx, ck_142 x hx⟩⟩
theorem kx_143 : ie_kP 143 := ⟨false, (fun h => nomatch h), fun x hx => ⟨kc_143 x hx, ck_143 x hx⟩⟩
theorem kx_144 : ie_kP 144 := ⟨false, (fun h => nomatch h), fun x hx => ⟨kc_144 x hx, ck_144 x hx⟩⟩
theorem kx_145 : ie_kP 145 := ⟨false, (fun h => nomatch h), fun x hx => ⟨kc_145 x hx, ck_145 x hx⟩⟩
theorem kx_146 : ie_kP 146 := ⟨false, (fun h => nomatch h), fun x hx => ⟨kc_146 x hx, ck_146 x hx⟩⟩
theorem kx_147 : ie_kP 147 := ⟨false, (fun h => nomatch h), fun x hx => ⟨kc_147 x hx, ck_147 x hx⟩⟩
theorem kx_148 : ie_kP 148 := ⟨false, (fun h => nomatch h), fun x hx => ⟨kc_148 x hx, ck_148 x hx⟩⟩
theorem kx_149 : ie_kP 149 := ⟨false, (fun h => nomatch h), fun x hx => ⟨kc_149 x hx, ck_149 x hx⟩⟩
theorem kx_150 : ie_kP 150 := ⟨false, (fun h => nomatch h), fun x hx => ⟨kc_150 x hx, ck_150 x hx⟩⟩
theorem kx_151 : ie_kP 151 := ⟨false, (fun h => nomatch h), fun x hx => ⟨kc_151 x hx, ck_151 x hx⟩⟩
theorem kx_152 : ie_kP 152 := ⟨false, (fun h => nomatch h), fun x hx => ⟨kc_152 x hx, ck_152 x hx⟩⟩
theorem kx_153 : ie_kP 153 := ⟨false, (fun h => nomatch h), fun x hx => ⟨kc_153 x hx, ck_153 x hx⟩⟩
theorem kx_154 : ie_kP 154 := ⟨false, (fun h => nomatch h), fun x hx => ⟨kc_154 x hx, ck_154 x hx⟩⟩
theorem kx_155 : ie_kP 155 := ⟨false, (fun h => nomatch h), fun x hx => ⟨kc_155 x hx, ck_155 x hx⟩⟩
theorem kx_156 : ie_kP 156 := ⟨false, (fun h => nomatch h), fun x hx => ⟨kc_156 x hx, ck_156 x hx⟩⟩
theorem kx_157 : ie_kP 157 := ⟨false, (fun h => nomatch h), fun x hx => ⟨kc_157 x hx, ck_157 x hx⟩⟩
theorem kx_158 : ie_kP 158 := ⟨false, (fun h => nomatch h), fun x hx => ⟨kc_158 x hx, ck_158 x hx⟩⟩
theorem kx_159 : ie_kP 159 := ⟨false, (fun h => nomatch h), fun x hx => ⟨kc_159 x hx, ck_159 x hx⟩⟩
theorem kx_160 : ie_kP 160 := ⟨false, (fun h => nomatch h), fun x hx => ⟨kc_160 x hx, ck_160 x hx⟩⟩
theorem kx_161 : ie_kP 161 := ⟨false, (fun h => nomatch h), fun x hx => ⟨kc_161 x hx, ck_161 x hx⟩⟩
theorem kx_162 : ie_kP 162 := ⟨false, (fun h => nomatch h), fun x hx => ⟨kc_162 x hx, ck_162 x hx⟩⟩
theorem kx_163 : ie_kP 163 := ⟨false, (fun h => nomatch h), fun x hx => ⟨kc_163 x hx, ck_163 x hx⟩⟩
theorem kx_164 : ie_kP 164 := ⟨false, (fun h => nomatch h), fun x hx => ⟨kc_164 x hx, ck_164 x hx⟩⟩
theorem kx_165 : ie_kP 165 := ⟨false, (fun h => nomatch h), fun x hx => ⟨kc_165 x hx, ck_165 x hx⟩⟩
theorem kx_166 : ie_kP 166 := ⟨false, (fun h => nomatch h), fun x hx => ⟨kc_166 x hx, ck_166 x hx⟩⟩
theorem kx_167 : ie_kP 167 := ⟨false, (fun h => nomatch h), fun x hx => ⟨kc_167 x hx, ck_167 x hx⟩⟩
theorem kx_168 : ie_kP 168 := ⟨false, (fun h => nomatch h), fun x hx => ⟨kc_168 x hx, ck_168 x hx⟩⟩
theorem kx_169 : ie_kP 169 := ⟨false, (fun h => nomatch h), fun x hx => ⟨kc_169 x hx, ck_169 x hx⟩⟩
theorem kx_170 : ie_kP 170 := ⟨false, (fun h => nomatch h), fun x hx => ⟨kc_170 x hx, ck_170 x hx⟩⟩
theorem kx_171 : ie_kP 171 := ⟨false, (fun h => nomatch h), fun x hx => ⟨kc_171 x hx, ck_171 x hx⟩⟩
theorem kx_172 : ie_kP 172 := ⟨false, (fun h => nomatch h), fun x hx => ⟨kc_172 x hx, ck_172 x hx⟩⟩
theorem kx_173 : ie_kP 173 := ⟨false, (fun h => nomatch h), fun x hx => ⟨kc_173 x hx, ck_173 x hx⟩⟩
theorem kx_174 : ie_kP 174 := ⟨false, (fun h => nomatch h), fun x hx => ⟨kc_174 x hx, ck_174 x hx⟩⟩
theorem kx_175 : ie_kP 175 := ⟨false, (fun h => nomatch h), fun x hx => ⟨kc_175 x hx, ck_175 x hx⟩⟩
theorem kx_176 : ie_kP 176 := ⟨false, (fun h => nomatch h), fun x hx => ⟨kc_176 x hx, ck_176 x hx⟩⟩
theorem kx_177 : ie_kP 177 := ⟨false, (fun h => nomatch h), fun x hx => ⟨kc_177 x hx, ck_177 x hx⟩⟩
theorem kx_178 : ie_kP 178 := ⟨false, (fun h => nomatch h), fun x hx => ⟨kc_178 x hx, ck_178 x hx⟩⟩
theorem kx_179 : ie_kP 179 := ⟨false, (fun h => nomatch h), fun x hx => ⟨kc_179 x hx, ck_179 x hx⟩⟩
theorem kx_180 : ie_kP 180 := ⟨false, (fun h => nomatch h), fun x hx => ⟨kc_180 x hx, ck_180 x hx⟩⟩
theorem kx_181 : ie_kP 181 := ⟨false, (fun h => nomatch h), fun x hx => ⟨kc_181 x hx, ck_181 x hx⟩⟩
theorem kx_182 : ie_kP 182 := ⟨false, (fun h => nomatch h), fun x hx => ⟨kc_182 x hx, ck_182 x hx⟩⟩
theorem kx_183 : ie_kP 183 := ⟨false, (fun h => nomatch h), fun x hx => ⟨kc_183 x hx, ck_183 x hx⟩⟩
theorem kx_184 : ie_kP 184 := ⟨false, (fun h => nomatch h), fun x hx => ⟨kc_184 x hx, ck_184 x hx⟩⟩
theorem kx_185 : ie_kP 185 := ⟨false, (fun h => nomatch h), fun x hx => ⟨kc_185 x hx, ck_185 x hx⟩⟩
theorem kx_186 : ie_kP 186 := ⟨false, (fun h => nomatch h), fun x hx => ⟨kc_186 x hx, ck_186 x hx⟩⟩
theorem kx_187 : ie_kP 187 := ⟨false, (fun h => nomatch h), fun x hx => ⟨kc_187 x hx, ck_187 x hx⟩⟩
theorem kx_188 : ie_kP 188 := ⟨false, (fun h => nomatch h), fun x hx => ⟨kc_188 x hx, ck_188 x hx⟩⟩
theorem kx_189 : ie_kP 189 := ⟨false, (fun h => nomatch h), fun x hx => ⟨kc_189 x hx, ck_189 x hx⟩⟩
theorem kx_190 : ie_kP 190 := ⟨false, (fun h => nomatch h), fun x hx => ⟨kc_190 x hx, ck_190 x hx⟩⟩
theorem kx_191 : ie_kP 191 := ⟨false, (fun h => nomatch h), fun x hx => ⟨kc_191 x hx, ck_191 x hx⟩⟩
theorem kx_192 : ie_kP 192 := ⟨false, (fun h => nomatch h), fun x hx => ⟨kc_192 x hx, ck_192 x hx⟩⟩
theorem kx_193 : ie_kP 193 := ⟨false, (fun h => nomatch h), fun x hx => ⟨kc_193 x hx, ck_193 x hx⟩⟩
theorem kx_194 : ie_kP 194 := ⟨false, (fun h => nomatch h), fun x hx => ⟨kc_194 x hx, ck_194 x hx⟩⟩
theorem kx_195 : ie_kP 195 := ⟨false, (fun h => nomatch h), fun x hx => ⟨kc_195 x hx, ck_195 x hx⟩⟩
theorem kx_196 : ie_kP 196 := ⟨false, (fun h => nomatch h), fun x hx => ⟨kc_196 x hx, ck_196 x hx⟩⟩
theorem kx_197 : ie_kP 197 := ⟨false, (fun h => nomatch h), fun x hx => ⟨kc_197 x hx, ck_197 x hx⟩⟩
theorem kx_198 : ie_kP 198 := ⟨false, (fun h => nomatch h), fun x hx => ⟨kc_198 x hx, ck_198 x hx⟩⟩
theorem kx_199 : ie_kP 199 := ⟨false, (fun h => nomatch h), fun x hx => ⟨kc_199 x hx, ck_199 x hx⟩⟩
theorem kx_200 : ie_kP 200 := ⟨false, (fun h => nomatch h), fun x hx => ⟨kc_200 x hx, ck_200 x hx⟩⟩
theorem kx_201 : ie_kP 201 := ⟨false, (fun h => nomatch h), fun x hx => ⟨kc_201 x hx, ck_201 x hx⟩⟩
theorem kx_202 : ie_kP 202 := ⟨false, (fun h => nomatch h), fun x hx => ⟨kc_202 x hx, ck_202 x hx⟩⟩
theorem kx_203 : ie_kP 203 := ⟨false, (fun h => nomatch h), fun x hx => ⟨kc_203 x hx, ck_203 x hx⟩⟩
theorem kx_204 : ie_kP 204 := ⟨false, (fun h => nomatch h), fun x hx => ⟨kc_204 x hx, ck_204 x hx⟩⟩
theorem kx_205 : ie_kP 205 := ⟨false, (fun h => nomatch h), fun x hx => ⟨kc_205 x hx, ck_205 x hx⟩⟩
theorem kx_206 : ie_kP 206 := ⟨false, (fun h => nomatch h), fun x hx => ⟨kc_206 x hx, ck_206 x hx⟩⟩
theorem kx_207 : ie_kP 207 := ⟨false, (fun h => nomatch h), fun x hx => ⟨kc_207 x hx, ck_207 x hx⟩⟩
theorem kx_208 : ie_kP 208 := ⟨false, (fun h => nomatch h), fun x hx => ⟨kc_208 x hx, ck_208 x hx⟩⟩
theorem kx_209 : ie_kP 209 := ⟨false, (fun h => nomatch h), fun x hx => ⟨kc_209 x hx, ck_209 x hx⟩⟩
theorem kx_210 : ie_kP 210 := ⟨false, (fun h => nomatch h), fun x hx => ⟨kc_210 x hx, ck_210 x hx⟩⟩
theorem kx_211 : ie_kP 211 := ⟨false, (fun h => nomatch h), fun x hx => ⟨kc_211 x hx, ck_211 x hx⟩⟩
theorem kx_212 : ie_kP 212 := ⟨false, (fun h => nomatch h), fun x hx => ⟨kc_212 x hx, ck_212 x hx⟩⟩
theorem kx_213 : ie_kP 213 := ⟨false, (fun h => nomatch h), fun x hx => ⟨kc_213 x hx, ck_213 x hx⟩⟩
theorem kx_214 : ie_kP 214 := ⟨false, (fun h => nomatch h), fun x hx => ⟨kc_214 x hx, ck_214 x hx⟩⟩
theorem kx_215 : ie_kP 215 := ⟨false, (fun h => nomatch h), fun x hx => ⟨kc_215 x hx, ck_215 x hx⟩⟩
theorem kx_216 : ie_kP 216 := ⟨false, (fun h => nomatch h), fun x hx => ⟨kc_216 x hx, ck_216 x hx⟩⟩
theorem kx_217 : ie_kP 217 := ⟨false, (fun h => nomatch h), fun x hx => ⟨kc_217 x hx, ck_217 x hx⟩⟩
theorem kx_218 : ie_kP 218 := ⟨false, (fun h => nomatch h), fun x hx => ⟨kc_218 x hx, ck_218 x hx⟩⟩
theorem kx_219 : ie_kP 219 := ⟨false, (fun h => nomatch h), fun x hx => ⟨kc_219 x hx, ck_219 x hx⟩⟩
theorem kx_220 : ie_kP 220 := ⟨false, (fun h => nomatch h), fun x hx => ⟨kc_220 x hx, ck_220 x hx⟩⟩
theorem kx_221 : ie_kP 221 := ⟨false, (fun h => nomatch h), fun x hx => ⟨kc_221 x hx, ck_221 x hx⟩⟩
theorem kx_222 : ie_kP 222 := ⟨false, (fun h => nomatch h), fun x hx => ⟨kc_222 x hx, ck_222 x hx⟩⟩
def ie_rng : List Nat := [0, 1, 2, 3, 4, 5, 6, 7, 8, 9, 10, 11, 12, 13, 14, 15, 16, 17, 18, 19, 20, 21, 22, 23, 24, 25, 26, 27, 28, 29, 30, 31, 32, 33, 34, 35, 36, 37, 38, 39, 40, 41, 42, 43, 44, 45, 46, 47, 48, 49, 50, 51, 52, 53, 54, 55, 56, 57, 58, 59, 60, 61, 62, 63, 64, 65, 66, 67, 68, 69, 70, 71, 72, 73, 74, 75, 76, 77, 78, 79, 80, 81, 82, 83, 84, 85, 86, 87, 88, 89, 90, 91, 92, 93, 94, 95, 96, 97, 98, 99, 100, 101, 102, 103, 104, 105, 106, 107, 108, 109, 110, 111, 112, 113, 114, 115, 116, 117, 118, 119, 120, 121, 122, 123, 124, 125, 126, 127, 128, 129, 130, 131, 132, 133, 134, 135, 136, 137, 138, 139, 140, 141, 142, 143, 144, 145, 146, 147, 148, 149, 150, 151, 152, 153, 154, 155, 156, 157, 158, 159, 160, 161, 162, 163, 164, 165, 166, 167, 168, 169, 170, 171, 172, 173, 174, 175, 176, 177, 178, 179, 180, 181, 182, 183, 184, 185, 186, 187, 188, 189, 190, 191, 192, 193, 194, 195, 196, 197, 198, 199, 200, 201, 202, 203, 204, 205, 206, 207, 208, 209, 210, 211, 212, 213, 214, 215, 216, 217, 218, 219, 220, 221, 222]
theorem ie_in_rng : ∀ m, m < 223 → m ∈ ie_rng := by decide +kernel
theorem kx_c0 : ∀ m ∈ ([0, 1, 2, 3, 4, 5, 6, 7, 8, 9, 10, 11, 12, 13, 14, 15, 16, 17, 18, 19, 20, 21, 22, 23, 24] : List Nat), ie_kP m := List.forall_mem_cons.mpr ⟨kx_0, List.forall_mem_cons.mpr ⟨kx_1, List.forall_mem_cons.mpr ⟨kx_2, List.forall_mem_cons.mpr ⟨kx_3, List.forall_mem_cons.mpr ⟨kx_4, List.forall_mem_cons.mpr ⟨kx_5, List.forall_mem_cons.mpr ⟨kx_6, List.forall_mem_cons.mpr ⟨kx_7, List.forall_mem_cons.mpr ⟨kx_8, List.forall_mem_cons.mpr ⟨kx_9, List.forall_mem_cons.mpr ⟨kx_10, List.forall_mem_cons.mpr ⟨kx_11, List.forall_mem_cons.mpr ⟨kx_12, List.forall_mem_cons.mpr ⟨kx_13, List.forall_mem_cons.mpr ⟨kx_14, List.forall_mem_cons.mpr ⟨kx_15, List.forall_mem_cons.mpr ⟨kx_16, List.forall_mem_cons.mpr ⟨kx_17, List.forall_mem_cons.mpr ⟨kx_18, List.forall_mem_cons.mpr ⟨kx_19, List.forall_mem_cons.mpr ⟨kx_20, List.forall_mem_cons.mpr ⟨kx_21, List.forall_mem_cons.mpr ⟨kx_22, List.forall_mem_cons.mpr ⟨kx_23, List.forall_mem_cons.mpr ⟨kx_24, fun _ h => absurd h List.not_mem_nil⟩⟩⟩⟩⟩⟩⟩⟩⟩⟩⟩⟩⟩⟩⟩⟩⟩⟩⟩⟩⟩⟩⟩⟩⟩
theorem kx_c1 : ∀ m ∈ ([25, 26, 27, 28, 29, 30, 31, 32, 33, 34, 35, 36, 37, 38, 39, 40, 41, 42, 43, 44, 45, 46, 47, 48, 49] : List Nat), ie_kP m := List.forall_mem_cons.mpr ⟨kx_25, List.forall_mem_cons.mpr ⟨kx_26, List.forall_mem_cons.mpr ⟨kx_27, List.forall_mem_cons.mpr ⟨kx_28, List.forall_mem_cons.mpr ⟨kx_29, List.forall_mem_cons.mpr ⟨kx_30, List.forall_mem_cons.mpr ⟨kx_31, List.forall_mem_cons.mpr ⟨kx_32, List.forall_mem_cons.mpr ⟨kx_33, List.forall_mem_cons.mpr ⟨kx_34, List.forall_mem_cons.mpr ⟨kx_35, List.forall_mem_cons.mpr ⟨kx_36, List.forall_mem_cons.mpr ⟨kx_37, List.forall_mem_cons.mpr ⟨kx_38, List.forall_mem_cons.mpr ⟨kx_39, List.forall_mem_cons.mpr ⟨kx_40, List.forall_mem_cons.mpr ⟨kx_41, List.forall_mem_cons.mpr ⟨kx_42, List.forall_mem_cons.mpr ⟨kx_43, List.forall_mem_cons.mpr ⟨kx_44, List.forall_mem_cons.mpr ⟨kx_45, List.forall_mem_cons.mpr ⟨kx_46, List.forall_mem_cons.mpr ⟨kx_47, List.forall_mem_cons.mpr ⟨kx_48, List.forall_mem_cons.mpr ⟨kx_49, fun _ h => absurd h List.not_mem_nil⟩⟩⟩⟩⟩⟩⟩⟩⟩⟩⟩⟩⟩⟩⟩⟩⟩⟩⟩⟩⟩⟩⟩⟩⟩
theorem kx_c2 : ∀ m ∈ ([50, 51, 52, 53, 54, 55, 56, 57, 58, 59, 60, 61, 62, 63, 64, 65, 66, 67, 68, 69, 70, 71, 72, 73, 74] : List Nat), ie_kP m := List.forall_mem_cons.mpr ⟨kx_50, List.forall_mem_cons.mpr ⟨kx_51, List.forall_mem_cons.mpr ⟨kx_52, List.forall_mem_cons.mpr ⟨kx_53, List.forall_mem_cons.mpr ⟨kx_54, List.forall_mem_cons.mpr ⟨kx_55, List.forall_mem_cons.mpr ⟨kx_56, List.forall_mem_cons.mpr ⟨kx_57, List.forall_mem_cons.mpr ⟨kx_58, List.forall_mem_cons.mpr ⟨kx_59, List.forall_mem_cons.mpr ⟨kx_60, List.forall_mem_cons.mpr ⟨kx_61, List.forall_mem_cons.mpr ⟨kx_62, List.forall_mem_cons.mpr ⟨kx_63, List.forall_mem_cons.mpr ⟨kx_64, List.forall_mem_cons.mpr ⟨kx_65, List.forall_mem_cons.mpr ⟨kx_66, List.forall_mem_cons.mpr ⟨kx_67, List.forall_mem_cons.mpr ⟨kx_68, List.forall_mem_cons.mpr ⟨kx_69, List.forall_mem_cons.mpr ⟨kx_70, List.forall_mem_cons.mpr ⟨kx_71, List.forall_mem_cons.mpr ⟨kx_72, List.forall_mem_cons.mpr ⟨kx_73, List.forall_mem_cons.mpr ⟨kx_74, fun _ h => absurd h List.not_mem_nil⟩⟩⟩⟩⟩⟩⟩⟩⟩⟩⟩⟩⟩⟩⟩⟩⟩⟩⟩⟩⟩⟩⟩⟩⟩
theorem kx_c3 : ∀ m ∈ ([75, 76, 77, 78, 79, 80, 81, 82, 83, 84, 85, 86, 87, 88, 89, 90, 91, 92, 93, 94, 95, 96, 97, 98, 99] : List Nat), ie_kP m := List.forall_mem_cons.mpr ⟨kx_75, List.forall_mem_cons.mpr ⟨kx_76, List.forall_mem_cons.mpr ⟨kx_77, List.forall_mem_cons.mpr ⟨kx_78, List.forall_mem_cons.mpr ⟨kx_79, List.forall_mem_cons.mpr ⟨kx_80, List.forall_mem_cons.mpr ⟨kx_81, List.forall_mem_cons.mpr ⟨kx_82, List.forall_mem_cons.mpr ⟨kx_83, List.forall_mem_cons.mpr ⟨kx_84, List.forall_mem_cons.mpr ⟨kx_85, List.forall_mem_cons.mpr ⟨kx_86, List.forall_mem_cons.mpr ⟨kx_87, List.forall_mem_cons.mpr ⟨kx_88, List.forall_mem_cons.mpr ⟨kx_89, List.forall_mem_cons.mpr ⟨kx_90, List.forall_mem_cons.mpr ⟨kx_91, List.forall_mem_cons.mpr ⟨kx_92, List.forall_mem_cons.mpr ⟨kx_93, List.forall_mem_cons.mpr ⟨kx_94, List.forall_mem_cons.mpr ⟨kx_95, List.forall_mem_cons.mpr ⟨kx_96, List.forall_mem_cons.mpr ⟨kx_97, List.forall_mem_cons.mpr ⟨kx_98, List.forall_mem_cons.mpr ⟨kx_99, fun _ h => absurd h List.not_mem_nil⟩⟩⟩⟩⟩⟩⟩⟩⟩⟩⟩⟩⟩⟩⟩⟩⟩⟩⟩⟩⟩⟩⟩⟩⟩
theorem kx_c4 : ∀ m ∈ ([100, 101, 102, 103, 104, 105, 106, 107, 108, 109, 110, 111, 112, 113, 114, 115, 116, 117, 118, 119, 120, 121, 122, 123, 124] : List Nat), ie_kP m := List.forall_mem_cons.mpr ⟨kx_100, List.forall_mem_cons.mpr ⟨kx_101, List.forall_mem_cons.mpr ⟨kx_102, List.forall_mem_cons.mpr ⟨kx_103, List.forall_mem_cons.mpr ⟨kx_104, List.forall_mem_cons.mpr ⟨kx_105, List.forall_mem_cons.mpr ⟨kx_106, List.forall_mem_cons.mpr ⟨kx_107, List.forall_mem_cons.mpr ⟨kx_108, List.forall_mem_cons.mpr ⟨kx_109, List.forall_mem_cons.mpr ⟨kx_110, List.forall_mem_cons.mpr ⟨kx_111, List.forall_mem_cons.mpr ⟨kx_112, List.forall_mem_cons.mpr ⟨kx_113, List.forall_mem_cons.mpr ⟨kx_114, List.forall_mem_cons.mpr ⟨kx_115, List.forall_mem_cons.mpr ⟨kx_116, List.forall_mem_cons.mpr ⟨kx_117, List.forall_mem_cons.mpr ⟨kx_118, List.forall_mem_cons.mpr ⟨kx_119, List.forall_mem_cons.mpr ⟨kx_120, List.forall_mem_cons.mpr ⟨kx_121, List.forall_mem_cons.mpr ⟨kx_122, List.forall_mem_cons.mpr ⟨kx_123, List.forall_mem_cons.mpr ⟨kx_124, fun _ h => absurd h List.not_mem_nil⟩⟩⟩⟩⟩⟩⟩⟩⟩⟩⟩⟩⟩⟩⟩⟩⟩⟩⟩⟩⟩⟩⟩⟩⟩
theorem kx_c5 : ∀ m ∈ ([125, 126, 127, 128, 129, 130, 131, 132, 133, 134, 135, 136, 137, 138, 139, 140, 141, 142, 143, 144, 145, 146, 147, 148, 149] : List Nat), ie_kP m := List.forall_mem_cons.mpr ⟨kx_125, List.forall_mem_cons.mpr ⟨kx_126, List.forall_mem_cons.mpr ⟨kx_127, List.forall_mem_cons.mpr ⟨kx_128, List.forall_mem_cons.mpr ⟨kx_129, List.forall_mem_cons.mpr ⟨kx_130, List.forall_mem_cons.mpr ⟨kx_131, List.forall_mem_cons.mpr ⟨kx_132, List.forall_mem_cons.mpr ⟨kx_133, List.forall_mem_cons.mpr ⟨kx_134, List.forall_mem_cons.mpr ⟨kx_135, List.forall_mem_cons.mpr ⟨kx_136, List.forall_mem_cons.mpr ⟨kx_137, List.forall_mem_cons.mpr ⟨kx_138, List.forall_mem_cons.mpr ⟨kx_139, List.forall_mem_cons.mpr ⟨kx_140, List.forall_mem_cons.mpr ⟨kx_141, List.forall_mem_cons.mpr ⟨kx_142, List.forall_mem_cons.mpr ⟨kx_143, List.forall_mem_cons.mpr ⟨kx_144, List.forall_mem_cons.mpr ⟨kx_145, List.forall_mem_cons.mpr ⟨kx_146, List.forall_mem_cons.mpr ⟨kx_147, List.forall_mem_cons.mpr ⟨kx_148, List.forall_mem_cons.mpr ⟨kx_149, fun _ h => absurd h List.not_mem_nil⟩⟩⟩⟩⟩⟩⟩⟩⟩⟩⟩⟩⟩⟩⟩⟩⟩⟩⟩⟩⟩⟩⟩⟩⟩
theorem kx_c6 : ∀ m ∈ ([150, 151, 152, 153, 154, 155, 156, 157, 158, 159, 160, 161, 162, 163, 164, 165, 166, 167, 168, 169, 170, 171, 172, 173, 174] : List Nat), ie_kP m := List.forall_mem_cons.mpr ⟨kx_150, List.forall_mem_cons.mpr ⟨kx_151, List.forall_mem_cons.mpr ⟨kx_152, List.forall_mem_cons.mpr ⟨kx_153, List.forall_mem_cons.mpr ⟨kx_154, List.forall_mem_cons.mpr ⟨kx_155, List.forall_mem_cons.mpr ⟨kx_156, List.forall_mem_cons.mpr ⟨kx_157, List.forall_mem_cons.mpr ⟨kx_158, List.forall_mem_cons.mpr ⟨kx_159, List.forall_mem_cons.mpr ⟨kx_160, List.forall_mem_cons.mpr ⟨kx_161, List.forall_mem_cons.mpr ⟨kx_162, List.forall_mem_cons.mpr ⟨kx_163, List.forall_mem_cons.mpr ⟨kx_164, List.forall_mem_cons.mpr ⟨kx_165, List.forall_mem_cons.mpr ⟨kx_166, List.forall_mem_cons.mpr ⟨kx_167, List.forall_mem_cons.mpr ⟨kx_168, List.forall_mem_cons.mpr ⟨kx_169, List.forall_mem_cons.mpr ⟨kx_170, List.forall_mem_cons.mpr ⟨kx_171, List.forall_mem_cons.mpr ⟨kx_172, List.forall_mem_cons.mpr ⟨kx_173, List.forall_mem_cons.mpr ⟨kx_174, fun _ h => absurd h List.not_mem_nil⟩⟩⟩⟩⟩⟩⟩⟩⟩⟩⟩⟩⟩⟩⟩⟩⟩⟩⟩⟩⟩⟩⟩⟩⟩
theorem kx_c7 : ∀ m ∈ ([175, 176, 177, 178, 179, 180, 181, 182, 183, 184, 185, 186, 187, 188, 189, 190, 191, 192, 193, 194, 195, 196, 197, 198, 199] : List Nat), ie_kP m := List.forall_mem_cons.mpr ⟨kx_175, List.forall_mem_cons.mpr ⟨kx_176, List.forall_mem_cons.mpr ⟨kx_177, List.forall_mem_cons.mpr ⟨kx_178, List.forall_mem_cons.mpr ⟨kx_179, List.forall_mem_cons.mpr ⟨kx_180, List.forall_mem_cons.mpr ⟨kx_181, List.forall_mem_cons.mpr ⟨kx_182, List.forall_mem_cons.mpr ⟨kx_183, List.forall_mem_cons.mpr ⟨kx_184, List.forall_mem_cons.mpr ⟨kx_185, List.forall_mem_cons.mpr ⟨kx_186, List.forall_mem_cons.mpr ⟨kx_187, List.forall_mem_cons.mpr ⟨kx_188, List.forall_mem_cons.mpr ⟨kx_189, List.forall_mem_cons.mpr ⟨kx_190, List.forall_mem_cons.mpr ⟨kx_191, List.forall_mem_cons.mpr ⟨kx_192, List.forall_mem_cons.mpr ⟨kx_193, List.forall_mem_cons.mpr ⟨kx_194, List.forall_mem_cons.mpr ⟨kx_195, List.forall_mem_cons.mpr ⟨kx_196, List.forall_mem_cons.mpr ⟨kx_197, List.forall_mem_cons.mpr ⟨kx_198, List.forall_mem_cons.mpr ⟨kx_199, fun _ h => absurd h List.not_mem_nil⟩⟩⟩⟩⟩⟩⟩⟩⟩⟩⟩⟩⟩⟩⟩⟩⟩⟩⟩⟩⟩⟩⟩⟩⟩
theorem kx_c8 : ∀ m ∈ ([200, 201, 202, 203, 204, 205, 206, 207, 208, 209, 210, 211, 212, 213, 214, 215, 216, 217, 218, 219, 220, 221, 222] : List Nat), ie_kP m := List.forall_mem_cons.mpr ⟨kx_200, List.forall_mem_cons.mpr ⟨kx_201, List.forall_mem_cons.mpr ⟨kx_202, List.forall_mem_cons.mpr ⟨kx_203, List.forall_mem_cons.mpr ⟨kx_204, List.forall_mem_cons.mpr ⟨kx_205, List.forall_mem_cons.mpr ⟨kx_206, List.forall_mem_cons.mpr ⟨kx_207, List.forall_mem_cons.mpr ⟨kx_208, List.forall_mem_cons.mpr ⟨kx_209, List.forall_mem_cons.mpr ⟨kx_210, List.forall_mem_cons.mpr ⟨kx_211, List.forall_mem_cons.mpr ⟨kx_212, List.forall_mem_cons.mpr ⟨kx_213, List.forall_mem_cons.mpr ⟨kx_214, List.forall_mem_cons.mpr ⟨kx_215, List.forall_mem_cons.mpr ⟨kx_216, List.forall_mem_cons.mpr ⟨kx_217, List.forall_mem_cons.mpr ⟨kx_218, List.forall_mem_cons.mpr ⟨kx_219, List.forall_mem_cons.mpr ⟨kx_220, List.forall_mem_cons.mpr ⟨kx_221, List.forall_mem_cons.mpr ⟨kx_222, fun _ h => absurd h List.not_mem_nil⟩⟩⟩⟩⟩⟩⟩⟩⟩⟩⟩⟩⟩⟩⟩⟩⟩⟩⟩⟩⟩⟩⟩
theorem kx_all : ∀ m ∈ ie_rng, ie_kP m := by
  show ∀ m ∈ ([0, 1, 2, 3, 4, 5, 6, 7, 8, 9, 10, 11, 12, 13, 14, 15, 16, 17, 18, 19, 20, 21, 22, 23, 24] : List Nat) ++ (([25, 26, 27, 28, 29, 30, 31, 32, 33, 34, 35, 36, 37, 38, 39, 40, 41, 42, 43, 44, 45, 46, 47, 48, 49] : List Nat) ++ (([50, 51, 52, 53, 54, 55, 56, 57, 58, 59, 60, 61, 62, 63, 64, 65, 66, 67, 68, 69, 70, 71, 72, 73, 74] : List Nat) ++ (([75, 76, 77, 78, 79, 80, 81, 82, 83, 84, 85, 86, 87, 88, 89, 90, 91, 92, 93, 94, 95, 96, 97, 98, 99] : List Nat) ++ (([100, 101, 102, 103, 104, 105, 106, 107, 108, 109, 110, 111, 112, 113, 114, 115, 116, 117, 118, 119, 120, 121, 122, 123, 124] : List Nat) ++ (([125, 126, 127, 128, 129, 130, 131, 132, 133, 134, 135, 136, 137, 138, 139, 140, 141, 142, 143, 144, 145, 146, 147, 148, 149] : List Nat) ++ (([150, 151, 152, 153, 154, 155, 156, 157, 158, 159, 160, 161, 162, 163, 164, 165, 166, 167, 168, 169, 170, 171, 172, 173, 174] : List Nat) ++ (([175, 176, 177, 178, 179, 180, 181, 182, 183, 184, 185, 186, 187, 188, 189, 190, 191, 192, 193, 194, 195, 196, 197, 198, 199] : List Nat) ++ (([200, 201, 202, 203, 204, 205, 206, 207, 208, 209, 210, 211, 212, 213, 214, 215, 216, 217, 218, 219, 220, 221, 222] : List Nat))))))))), ie_kP m
  exact List.forall_mem_append.mpr ⟨kx_c0, List.forall_mem_append.mpr ⟨kx_c1, List.forall_mem_append.mpr ⟨kx_c2, List.forall_mem_append.mpr ⟨kx_c3, List.forall_mem_append.mpr ⟨kx_c4, List.forall_mem_append.mpr ⟨kx_c5, List.forall_mem_append.mpr ⟨kx_c6, List.forall_mem_append.mpr ⟨kx_c7, kx_c8⟩⟩⟩⟩⟩⟩⟩⟩
theorem ie_kall (m : Nat) (h : m < 223) : ie_kP m := kx_all m (ie_in_rng m h)
theorem mk_c0 : ∀ m ∈ ([0, 1, 2, 3, 4, 5, 6, 7, 8, 9, 10, 11, 12, 13, 14, 15, 16, 17, 18, 19, 20, 21, 22, 23, 24] : List Nat), ie_mck m = true := List.forall_mem_cons.mpr ⟨mk_0, List.forall_mem_cons.mpr ⟨mk_1, List.forall_mem_cons.mpr ⟨mk_2, List.forall_mem_cons.mpr ⟨mk_3, List.forall_mem_cons.mpr ⟨mk_4, List.forall_mem_cons.mpr ⟨mk_5, List.forall_mem_cons.mpr ⟨mk_6, List.forall_mem_cons.mpr ⟨mk_7, List.forall_mem_cons.mpr ⟨mk_8, List.forall_mem_cons.mpr ⟨mk_9, List.forall_mem_cons.mpr ⟨mk_10, List.forall_mem_cons.mpr ⟨mk_11, List.forall_mem_cons.mpr ⟨mk_12, List.forall_mem_cons.mpr ⟨mk_13, List.forall_mem_cons.mpr ⟨mk_14, List.forall_mem_cons.mpr ⟨mk_15, List.forall_mem_cons.mpr ⟨mk_16, List.forall_mem_cons.mpr ⟨mk_17, List.forall_mem_cons.mpr ⟨mk_18, List.forall_mem_cons.mpr ⟨mk_19, List.forall_mem_cons.mpr ⟨mk_20, List.forall_mem_cons.mpr ⟨mk_21, List.forall_mem_cons.mpr ⟨mk_22, List.forall_mem_cons.mpr ⟨mk_23, List.forall_mem_cons.mpr ⟨mk_24, fun _ h => absurd h List.not_mem_nil⟩⟩⟩⟩⟩⟩⟩⟩⟩⟩⟩⟩⟩⟩⟩⟩⟩⟩⟩⟩⟩⟩⟩⟩⟩
theorem mk_c1 : ∀ m ∈ ([25, 26, 27, 28, 29, 30, 31, 32, 33, 34, 35, 36, 37, 38, 39, 40, 41, 42, 43, 44, 45, 46, 47, 48, 49] : List Nat), ie_mck m = true := List.forall_mem_cons.mpr ⟨mk_25, List.forall_mem_cons.mpr ⟨mk_26, List.forall_mem_cons.mpr ⟨mk_27, List.forall_mem_cons.mpr ⟨mk_28, List.forall_mem_cons.mpr ⟨mk_29, List.forall_mem_cons.mpr ⟨mk_30, List.forall_mem_cons.mpr ⟨mk_31, List.forall_mem_cons.mpr ⟨mk_32, List.forall_mem_cons.mpr ⟨mk_33, List.forall_mem_cons.mpr ⟨mk_34, List.forall_mem_cons.mpr ⟨mk_35, List.forall_mem_cons.mpr ⟨mk_36, List.forall_mem_cons.mpr ⟨mk_37, List.forall_mem_cons.mpr ⟨mk_38, List.forall_mem_cons.mpr ⟨mk_39, List.forall_mem_cons.mpr ⟨mk_40, List.forall_mem_cons.mpr ⟨mk_41, List.forall_mem_cons.mpr ⟨mk_42, List.forall_mem_cons.mpr ⟨mk_43, List.forall_mem_cons.mpr ⟨mk_44, List.forall_mem_cons.mpr ⟨mk_45, List.forall_mem_cons.mpr ⟨mk_46, List.forall_mem_cons.mpr ⟨mk_47, List.forall_mem_cons.mpr ⟨mk_48, List.forall_mem_cons.mpr ⟨mk_49, fun _ h => absurd h List.not_mem_nil⟩⟩⟩⟩⟩⟩⟩⟩⟩⟩⟩⟩⟩⟩⟩⟩⟩⟩⟩⟩⟩⟩⟩⟩⟩
theorem mk_c2 : ∀ m ∈ ([50, 51, 52, 53, 54, 55, 56, 57, 58, 59, 60, 61, 62, 63, 64, 65, 66, 67, 68, 69, 70, 71, 72, 73, 74] : List Nat), ie_mck m = true := List.forall_mem_cons.mpr ⟨mk_50, List.forall_mem_cons.mpr ⟨mk_51, List.forall_mem_cons.mpr ⟨mk_52, List.forall_mem_cons.mpr ⟨mk_53, List.forall_mem_cons.mpr ⟨mk_54, List.forall_mem_cons.mpr ⟨mk_55, List.forall_mem_cons.mpr ⟨mk_56, List.forall_mem_cons.mpr ⟨mk_57, List.forall_mem_cons.mpr ⟨mk_58, List.forall_mem_cons.mpr ⟨mk_59, List.forall_mem_cons.mpr ⟨mk_60, List.forall_mem_cons.mpr ⟨mk_61, List.forall_mem_cons.mpr ⟨mk_62, List.forall_mem_cons.mpr ⟨mk_63, List.forall_mem_cons.mpr ⟨mk_64, List.forall_mem_cons.mpr ⟨mk_65, List.forall_mem_cons.mpr ⟨mk_66, List.forall_mem_cons.mpr ⟨mk_67, List.forall_mem_cons.mpr ⟨mk_68, List.forall_mem_cons.mpr ⟨mk_69, List.forall_mem_cons.mpr ⟨mk_70, List.forall_mem_cons.mpr ⟨mk_71, List.forall_mem_cons.mpr ⟨mk_72, List.forall_mem_cons.mpr ⟨mk_73, List.forall_mem_cons.mpr ⟨mk_74, fun _ h => absurd h List.not_mem_nil⟩⟩⟩⟩⟩⟩⟩⟩⟩⟩⟩⟩⟩⟩⟩⟩⟩⟩⟩⟩⟩⟩⟩⟩⟩
theorem mk_c3 : ∀ m ∈ ([75, 76, 77, 78, 79, 80, 81, 82, 83, 84, 85, 86, 87, 88, 89, 90, 91, 92, 93, 94, 95, 96, 97, 98, 99] : List Nat), ie_mck m = true := List.forall_mem_cons.mpr ⟨mk_75, List.forall_mem_cons.mpr ⟨mk_76, List.forall_mem_cons.mpr ⟨mk_77, List.forall_mem_cons.mpr ⟨mk_78, List.forall_mem_cons.mpr ⟨mk_79, List.forall_mem_cons.mpr ⟨mk_80, List.forall_mem_cons.mpr ⟨mk_81, List.forall_mem_cons.mpr ⟨mk_82, List.forall_mem_cons.mpr ⟨mk_83, List.forall_mem_cons.mpr ⟨mk_84, List.forall_mem_cons.mpr ⟨mk_85, List.forall_mem_cons.mpr ⟨mk_86, List.forall_mem_cons.mpr ⟨mk_87, List.forall_mem_cons.mpr ⟨mk_88, List.forall_mem_cons.mpr ⟨mk_89, List.forall_mem_cons.mpr ⟨mk_90, List.forall_mem_cons.mpr ⟨mk_91, List.forall_mem_cons.mpr ⟨mk_92, List.forall_mem_cons.mpr ⟨mk_93, List.forall_mem_cons.mpr ⟨mk_94, List.forall_mem_cons.mpr ⟨mk_95, List.forall_mem_cons.mpr ⟨mk_96, List.forall_mem_cons.mpr ⟨mk_97, List.forall_mem_cons.mpr ⟨mk_98, List.forall_mem_cons.mpr ⟨mk_99, fun _ h => absurd h List.not_mem_nil⟩⟩⟩⟩⟩⟩⟩⟩⟩⟩⟩⟩⟩⟩⟩⟩⟩⟩⟩⟩⟩⟩⟩⟩⟩
theorem mk_c4 : ∀ m ∈ ([100, 101, 102, 103, 104, 105, 106, 107, 108, 109, 110, 111, 112, 113, 114, 115, 116, 117, 118, 119, 120, 121, 122, 123, 124] : List Nat), ie_mck m = true := List.forall_mem_cons.mpr ⟨mk_100, List.forall_mem_cons.mpr ⟨mk_101, List.forall_mem_cons.mpr ⟨mk_102, List.forall_mem_cons.mpr ⟨mk_103, List.forall_mem_cons.mpr ⟨mk_104, List.forall_mem_cons.mpr ⟨mk_105, List.forall_mem_cons.mpr ⟨mk_106, List.forall_mem_cons.mpr ⟨mk_107, List.forall_mem_cons.mpr ⟨mk_108, List.forall_mem_cons.mpr ⟨mk_109, List.forall_mem_cons.mpr ⟨mk_110, List.forall_mem_cons.mpr ⟨mk_111, List.forall_mem_cons.mpr ⟨mk_112, List.forall_mem_cons.mpr ⟨mk_113, List.forall_mem_cons.mpr ⟨mk_114, List.forall_mem_cons.mpr ⟨mk_115, List.forall_mem_cons.mpr ⟨mk_116, List.forall_mem_cons.mpr ⟨mk_117, List.forall_mem_cons.mpr ⟨mk_118, List.forall_mem_cons.mpr ⟨mk_119, List.forall_mem_cons.mpr ⟨mk_120, List.forall_mem_cons.mpr ⟨mk_121, List.forall_mem_cons.mpr ⟨mk_122, List.forall_mem_cons.mpr ⟨mk_123, List.forall_mem_cons.mpr ⟨mk_124, fun _ h => absurd h List.not_mem_nil⟩⟩⟩⟩⟩⟩⟩⟩⟩⟩⟩⟩⟩⟩⟩⟩⟩⟩⟩⟩⟩⟩⟩⟩⟩
theorem mk_c5 : ∀ m ∈ ([125, 126, 127, 128, 129, 130, 131, 132, 133, 134, 135, 136, 137, 138, 139, 140, 141, 142, 143, 144, 145, 146, 147, 148, 149] : List Nat), ie_mck m = true := List.forall_mem_cons.mpr ⟨mk_125, List.forall_mem_cons.mpr ⟨mk_126, List.forall_mem_cons.mpr ⟨mk_127, List.forall_mem_cons.mpr ⟨mk_128, List.forall_mem_cons.mpr ⟨mk_129, List.forall_mem_cons.mpr ⟨mk_130, List.forall_mem_cons.mpr ⟨mk_131, List.forall_mem_cons.mpr ⟨mk_132, List.forall_mem_cons.mpr ⟨mk_133, List.forall_mem_cons.mpr ⟨mk_134, List.forall_mem_cons.mpr ⟨mk_135, List.forall_mem_cons.mpr ⟨mk_136, List.forall_mem_cons.mpr ⟨mk_137, List.forall_mem_cons.mpr ⟨mk_138, List.forall_mem_cons.mpr ⟨mk_139, List.forall_mem_cons.mpr ⟨mk_140, List.forall_mem_cons.mpr ⟨mk_141, List.forall_mem_cons.mpr ⟨mk_142, List.forall_mem_cons.mpr ⟨mk_143, List.forall_mem_cons.mpr ⟨mk_144, List.forall_mem_cons.mpr ⟨mk_145, List.forall_mem_cons.mpr ⟨mk_146, List.forall_mem_cons.mpr ⟨mk_147, List.forall_mem_cons.mpr ⟨mk_148, List.forall_mem_cons.mpr ⟨mk_149, fun _ h => absurd h List.not_mem_nil⟩⟩⟩⟩⟩⟩⟩⟩⟩⟩⟩⟩⟩⟩⟩⟩⟩⟩⟩⟩⟩⟩⟩⟩⟩
theorem mk_c6 : ∀ m ∈ ([150, 151, 152, 153, 154, 155, 156, 157, 158, 159, 160, 161, 162, 163, 164, 165, 166, 167, 168, 169, 170, 171, 172, 173, 174] : List Nat), ie_mck m = true := List.forall_mem_cons.mpr ⟨mk_150, List.forall_mem_cons.mpr ⟨mk_151, List.forall_mem_cons.mpr ⟨mk_152, List.forall_mem_cons.mpr ⟨mk_153, List.forall_mem_cons.mpr ⟨mk_154, List.forall_mem_cons.mpr ⟨mk_155, List.forall_mem_cons.mpr ⟨mk_156, List.forall_mem_cons.mpr ⟨mk_157, List.forall_mem_cons.mpr ⟨mk_158, List.forall_mem_cons.mpr ⟨mk_159, List.forall_mem_cons.mpr ⟨mk_160, List.forall_mem_cons.mpr ⟨mk_161, List.forall_mem_cons.mpr ⟨mk_162, List.forall_mem_cons.mpr ⟨mk_163, List.forall_mem_cons.mpr ⟨mk_164, List.forall_mem_cons.mpr ⟨mk_165, List.forall_mem_cons.mpr ⟨mk_166, List.forall_mem_cons.mpr ⟨mk_167, List.forall_mem_cons.mpr ⟨mk_168, List.forall_mem_cons.mpr ⟨mk_169, List.forall_mem_cons.mpr ⟨mk_170, List.forall_mem_cons.mpr ⟨mk_171, List.forall_mem_cons.mpr ⟨mk_172, List.forall_mem_cons.mpr ⟨mk_173, List.forall_mem_cons.mpr ⟨mk_174, fun _ h => absurd h List.not_mem_nil⟩⟩⟩⟩⟩⟩⟩⟩⟩⟩⟩⟩⟩⟩⟩⟩⟩⟩⟩⟩⟩⟩⟩⟩⟩
theorem mk_c7 : ∀ m ∈ ([175, 176, 177, 178, 179, 180, 181, 182, 183, 184, 185, 186, 187, 188, 189, 190, 191, 192, 193, 194, 195, 196, 197, 198, 199] : List Nat), ie_mck m = true := List.forall_mem_cons.mpr ⟨mk_175, List.forall_mem_cons.mpr ⟨mk_176, List.forall_mem_cons.mpr ⟨mk_177, List.forall_mem_cons.mpr ⟨mk_178, List.forall_mem_cons.mpr ⟨mk_179, List.forall_mem_cons.mpr ⟨mk_180, List.forall_mem_cons.mpr ⟨mk_181, List.forall_mem_cons.mpr ⟨mk_182, List.forall_mem_cons.mpr ⟨mk_183, List.forall_mem_cons.mpr ⟨mk_184, List.forall_mem_cons.mpr ⟨mk_185, List.forall_mem_cons.mpr ⟨mk_186, List.forall_mem_cons.mpr ⟨mk_187, List.forall_mem_cons.mpr ⟨mk_188, List.forall_mem_cons.mpr ⟨mk_189, List.forall_mem_cons.mpr ⟨mk_190, List.forall_mem_cons.mpr ⟨mk_191, List.forall_mem_cons.mpr ⟨mk_192, List.forall_mem_cons.mpr ⟨mk_193, List.forall_mem_cons.mpr ⟨mk_194, List.forall_mem_cons.mpr ⟨mk_195, List.forall_mem_cons.mpr ⟨mk_196, List.forall_mem_cons.mpr ⟨mk_197, List.forall_mem_cons.mpr ⟨mk_198, List.forall_mem_cons.mpr ⟨mk_199, fun _ h => absurd h List.not_mem_nil⟩⟩⟩⟩⟩⟩⟩⟩⟩⟩⟩⟩⟩⟩⟩⟩⟩⟩⟩⟩⟩⟩⟩⟩⟩
theorem mk_c8 : ∀ m ∈ ([200, 201, 202, 203, 204, 205, 206, 207, 208, 209, 210, 211, 212, 213, 214, 215, 216, 217, 218, 219, 220, 221] : List Nat), ie_mck m = true := List.forall_mem_cons.mpr ⟨mk_200, List.forall_mem_cons.mpr ⟨mk_201, List.forall_mem_cons.mpr ⟨mk_202, List.forall_mem_cons.mpr ⟨mk_203, List.forall_mem_cons.mpr ⟨mk_204, List.forall_mem_cons.mpr ⟨mk_205, List.forall_mem_cons.mpr ⟨mk_206, List.forall_mem_cons.mpr ⟨mk_207, List.forall_mem_cons.mpr ⟨mk_208, List.forall_mem_cons.mpr ⟨mk_209, List.forall_mem_cons.mpr ⟨mk_210, List.forall_mem_cons.mpr ⟨mk_211, List.forall_mem_cons.mpr ⟨mk_212, List.forall_mem_cons.mpr ⟨mk_213, List.forall_mem_cons.mpr ⟨mk_214, List.forall_mem_cons.mpr ⟨mk_215, List.forall_mem_cons.mpr ⟨mk_216, List.forall_mem_cons.mpr ⟨mk_217, List.forall_mem_cons.mpr ⟨mk_218, List.forall_mem_cons.mpr ⟨mk_219, List.forall_mem_cons.mpr ⟨mk_220, List.forall_mem_cons.mpr ⟨mk_221, fun _ h => absurd h List.not_mem_nil⟩⟩⟩⟩⟩⟩⟩⟩⟩⟩⟩⟩⟩⟩⟩⟩⟩⟩⟩⟩⟩⟩
def ie_rng2 : List Nat := [0, 1, 2, 3, 4, 5, 6, 7, 8, 9, 10, 11, 12, 13, 14, 15, 16, 17, 18, 19, 20, 21, 22, 23, 24, 25, 26, 27, 28, 29, 30, 31, 32, 33, 34, 35, 36, 37, 38, 39, 40, 41, 42, 43, 44, 45, 46, 47, 48, 49, 50, 51, 52, 53, 54, 55, 56, 57, 58, 59, 60, 61, 62, 63, 64, 65, 66, 67, 68, 69, 70, 71, 72, 73, 74, 75, 76, 77, 78, 79, 80, 81, 82, 83, 84, 85, 86, 87, 88, 89, 90, 91, 92, 93, 94, 95, 96, 97, 98, 99, 100, 101, 102, 103, 104, 105, 106, 107, 108, 109, 110, 111, 112, 113, 114, 115, 116, 117, 118, 119, 120, 121, 122, 123, 124, 125, 126, 127, 128, 129, 130, 131, 132, 133, 134, 135, 136, 137, 138, 139, 140, 141, 142, 143, 144, 145, 146, 147, 148, 149, 150, 151, 152, 153, 154, 155, 156, 157, 158, 159, 160, 161, 162, 163, 164, 165, 166, 167, 168, 169, 170, 171, 172, 173, 174, 175, 176, 177, 178, 179, 180, 181, 182, 183, 184, 185, 186, 187, 188, 189, 190, 191, 192, 193, 194, 195, 196, 197, 198, 199, 200, 201, 202, 203, 204, 205, 206, 207, 208, 209, 210, 211, 212, 213, 214, 215, 216, 217, 218, 219, 220, 221]
theorem ie_in_rng2 : ∀ m, m < 222 → m ∈ ie_rng2 := by decide +kernel
theorem mk_all : ∀ m ∈ ie_rng2, ie_mck m = true := by
  show ∀ m ∈ ([0, 1, 2, 3, 4, 5, 6, 7, 8, 9, 10, 11, 12, 13, 14, 15, 16, 17, 18, 19, 20, 21, 22, 23, 24] : List Nat) ++ (([25, 26, 27, 28, 29, 30, 31, 32, 33, 34, 35, 36, 37, 38, 39, 40, 41, 42, 43, 44, 45, 46, 47, 48, 49] : List Nat) ++ (([50, 51, 52, 53, 54, 55, 56, 57, 58, 59, 60, 61, 62, 63, 64, 65, 66, 67, 68, 69, 70, 71, 72, 73, 74] : List Nat) ++ (([75, 76, 77, 78, 79, 80, 81, 82, 83, 84, 85, 86, 87, 88, 89, 90, 91, 92, 93, 94, 95, 96, 97, 98, 99] : List Nat) ++ (([100, 101, 102, 103, 104, 105, 106, 107, 108, 109, 110, 111, 112, 113, 114, 115, 116, 117, 118, 119, 120, 121, 122, 123, 124] : List Nat) ++ (([125, 126, 127, 128, 129, 130, 131, 132, 133, 134, 135, 136, 137, 138, 139, 140, 141, 142, 143, 144, 145, 146, 147, 148, 149] : List Nat) ++ (([150, 151, 152, 153, 154, 155, 156, 157, 158, 159, 160, 161, 162, 163, 164, 165, 166, 167, 168, 169, 170, 171, 172, 173, 174] : List Nat) ++ (([175, 176, 177, 178, 179, 180, 181, 182, 183, 184, 185, 186, 187, 188, 189, 190, 191, 192, 193, 194, 195, 196, 197, 198, 199] : List Nat) ++ (([200, 201, 202, 203, 204, 205, 206, 207, 208, 209, 210, 211, 212, 213, 214, 215, 216, 217, 218, 219, 220, 221] : List Nat))))))))), ie_mck m = true
  exact List.forall_mem_append.mpr ⟨mk_c0, List.forall_mem_append.mpr ⟨mk_c1, List.forall_mem_append.mpr ⟨mk_c2, List.forall_mem_append.mpr ⟨mk_c3, List.forall_mem_append.mpr ⟨mk_c4, List.forall_mem_append.mpr ⟨mk_c5, List.forall_mem_append.mpr ⟨mk_c6, List.forall_mem_append.mpr ⟨mk_c7, mk_c8⟩⟩⟩⟩⟩⟩⟩⟩
theorem ie_mall (m : Nat) (h : m < 222) : ie_mck m = true := mk_all m (ie_in_rng2 m h)
