/-! WHOLE RUNS of the abstract machine: printed by wip/whole/gen15.py -/
def mK (M : Nat) : List (Nat × aI) := (pt M).2.2.2.2.2.2.2
theorem m_range285 {M : Nat} (h : M < 285) : M ∈ ([0, 1, 2, 3, 4, 5, 6, 7, 8, 9, 10, 11, 12, 13, 14, 15, 16, 17, 18, 19] ++ ([20, 21, 22, 23, 24, 25, 26, 27, 28, 29, 30, 31, 32, 33, 34, 35, 36, 37, 38, 39] ++ ([40, 41, 42, 43, 44, 45, 46, 47, 48, 49, 50, 51, 52, 53, 54, 55, 56, 57, 58, 59] ++ ([60, 61, 62, 63, 64, 65, 66, 67, 68, 69, 70, 71, 72, 73, 74, 75, 76, 77, 78, 79] ++ ([80, 81, 82, 83, 84, 85, 86, 87, 88, 89, 90, 91, 92, 93, 94, 95, 96, 97, 98, 99] ++ ([100, 101, 102, 103, 104, 105, 106, 107, 108, 109, 110, 111, 112, 113, 114, 115, 116, 117, 118, 119] ++ ([120, 121, 122, 123, 124, 125, 126, 127, 128, 129, 130, 131, 132, 133, 134, 135, 136, 137, 138, 139] ++ ([140, 141, 142, 143, 144, 145, 146, 147, 148, 149, 150, 151, 152, 153, 154, 155, 156, 157, 158, 159] ++ ([160, 161, 162, 163, 164, 165, 166, 167, 168, 169, 170, 171, 172, 173, 174, 175, 176, 177, 178, 179] ++ ([180, 181, 182, 183, 184, 185, 186, 187, 188, 189, 190, 191, 192, 193, 194, 195, 196, 197, 198, 199] ++ ([200, 201, 202, 203, 204, 205, 206, 207, 208, 209, 210, 211, 212, 213, 214, 215, 216, 217, 218, 219] ++ ([220, 221, 222, 223, 224, 225, 226, 227, 228, 229, 230, 231, 232, 233, 234, 235, 236, 237, 238, 239] ++ ([240, 241, 242, 243, 244, 245, 246, 247, 248, 249, 250, 251, 252, 253, 254, 255, 256, 257, 258, 259] ++ ([260, 261, 262, 263, 264, 265, 266, 267, 268, 269, 270, 271, 272, 273, 274, 275, 276, 277, 278, 279] ++ ([280, 281, 282, 283, 284])))))))))))))) : List Nat) := (by decide +kernel : List.range 285 = ([0, 1, 2, 3, 4, 5, 6, 7, 8, 9, 10, 11, 12, 13, 14, 15, 16, 17, 18, 19] ++ ([20, 21, 22, 23, 24, 25, 26, 27, 28, 29, 30, 31, 32, 33, 34, 35, 36, 37, 38, 39] ++ ([40, 41, 42, 43, 44, 45, 46, 47, 48, 49, 50, 51, 52, 53, 54, 55, 56, 57, 58, 59] ++ ([60, 61, 62, 63, 64, 65, 66, 67, 68, 69, 70, 71, 72, 73, 74, 75, 76, 77, 78, 79] ++ ([80, 81, 82, 83, 84, 85, 86, 87, 88, 89, 90, 91, 92, 93, 94, 95, 96, 97, 98, 99] ++ ([100, 101, 102, 103, 104, 105, 106, 107, 108, 109, 110, 111, 112, 113, 114, 115, 116, 117, 118, 119] ++ ([120, 121, 122, 123, 124, 125, 126, 127, 128, 129, 130, 131, 132, 133, 134, 135, 136, 137, 138, 139] ++ ([140, 141, 142, 143, 144, 145, 146, 147, 148, 149, 150, 151, 152, 153, 154, 155, 156, 157, 158, 159] ++ ([160, 161, 162, 163, 164, 165, 166, 167, 168, 169, 170, 171, 172, 173, 174, 175, 176, 177, 178, 179] ++ ([180, 181, 182, 183, 184, 185, 186, 187, 188, 189, 190, 191, 192, 193, 194, 195, 196, 197, 198, 199] ++ ([200, 201, 202, 203, 204, 205, 206, 207, 208, 209, 210, 211, 212, 213, 214, 215, 216, 217, 218, 219] ++ ([220, 221, 222, 223, 224, 225, 226, 227, 228, 229, 230, 231, 232, 233, 234, 235, 236, 237, 238, 239] ++ ([240, 241, 242, 243, 244, 245, 246, 247, 248, 249, 250, 251, 252, 253, 254, 255, 256, 257, 258, 259] ++ ([260, 261, 262, 263, 264, 265, 266, 267, 268, 269, 270, 271, 272, 273, 274, 275, 276, 277, 278, 279] ++ ([280, 281, 282, 283, 284])))))))))))))))) ▸ List.mem_range.mpr h
theorem m_range287 {M : Nat} (h : M < 287) : M ∈ ([0, 1, 2, 3, 4, 5, 6, 7, 8, 9, 10, 11, 12, 13, 14, 15, 16, 17, 18, 19] ++ ([20, 21, 22, 23, 24, 25, 26, 27, 28, 29, 30, 31, 32, 33, 34, 35, 36, 37, 38, 39] ++ ([40, 41, 42, 43, 44, 45, 46, 47, 48, 49, 50, 51, 52, 53, 54, 55, 56, 57, 58, 59] ++ ([60, 61, 62, 63, 64, 65, 66, 67, 68, 69, 70, 71, 72, 73, 74, 75, 76, 77, 78, 79] ++ ([80, 81, 82, 83, 84, 85, 86, 87, 88, 89, 90, 91, 92, 93, 94, 95, 96, 97, 98, 99] ++ ([100, 101, 102, 103, 104, 105, 106, 107, 108, 109, 110, 111, 112, 113, 114, 115, 116, 117, 118, 119] ++ ([120, 121, 122, 123, 124, 125, 126, 127, 128, 129, 130, 131, 132, 133, 134, 135, 136, 137, 138, 139] ++ ([140, 141, 142, 143, 144, 145, 146, 147, 148, 149, 150, 151, 152, 153, 154, 155, 156, 157, 158, 159] ++ ([160, 161, 162, 163, 164, 165, 166, 167, 168, 169, 170, 171, 172, 173, 174, 175, 176, 177, 178, 179] ++ ([180, 181, 182, 183, 184, 185, 186, 187, 188, 189, 190, 191, 192, 193, 194, 195, 196, 197, 198, 199] ++ ([200, 201, 202, 203, 204, 205, 206, 207, 208, 209, 210, 211, 212, 213, 214, 215, 216, 217, 218, 219] ++ ([220, 221, 222, 223, 224, 225, 226, 227, 228, 229, 230, 231, 232, 233, 234, 235, 236, 237, 238, 239] ++ ([240, 241, 242, 243, 244, 245, 246, 247, 248, 249, 250, 251, 252, 253, 254, 255, 256, 257, 258, 259] ++ ([260, 261, 262, 263, 264, 265, 266, 267, 268, 269, 270, 271, 272, 273, 274, 275, 276, 277, 278, 279] ++ ([280, 281, 282, 283, 284, 285, 286])))))))))))))) : List Nat) := (by decide +kernel : List.range 287 = ([0, 1, 2, 3, 4, 5, 6, 7, 8, 9, 10, 11, 12, 13, 14, 15, 16, 17, 18, 19] ++ ([20, 21, 22, 23, 24, 25, 26, 27, 28, 29, 30, 31, 32, 33, 34, 35, 36, 37, 38, 39] ++ ([40, 41, 42, 43, 44, 45, 46, 47, 48, 49, 50, 51, 52, 53, 54, 55, 56, 57, 58, 59] ++ ([60, 61, 62, 63, 64, 65, 66, 67, 68, 69, 70, 71, 72, 73, 74, 75, 76, 77, 78, 79] ++ ([80, 81, 82, 83, 84, 85, 86, 87, 88, 89, 90, 91, 92, 93, 94, 95, 96, 97, 98, 99] ++ ([100, 101, 102, 103, 104, 105, 106, 107, 108, 109, 110, 111, 112, 113, 114, 115, 116, 117, 118, 119] ++ ([120, 121, 122, 123, 124, 125, 126, 127, 128, 129, 130, 131, 132, 133, 134, 135, 136, 137, 138, 139] ++ ([140, 141, 142, 143, 144, 145, 146, 147, 148, 149, 150, 151, 152, 153, 154, 155, 156, 157, 158, 159] ++ ([160, 161, 162, 163, 164, 165, 166, 167, 168, 169, 170, 171, 172, 173, 174, 175, 176, 177, 178, 179] ++ ([180, 181, 182, 183, 184, 185, 186, 187, 188, 189, 190, 191, 192, 193, 194, 195, 196, 197, 198, 199] ++ ([200, 201, 202, 203, 204, 205, 206, 207, 208, 209, 210, 211, 212, 213, 214, 215, 216, 217, 218, 219] ++ ([220, 221, 222, 223, 224, 225, 226, 227, 228, 229, 230, 231, 232, 233, 234, 235, 236, 237, 238, 239] ++ ([240, 241, 242, 243, 244, 245, 246, 247, 248, 249, 250, 251, 252, 253, 254, 255, 256, 257, 258, 259] ++ ([260, 261, 262, 263, 264, 265, 266, 267, 268, 269, 270, 271, 272, 273, 274, 275, 276, 277, 278, 279] ++ ([280, 281, 282, 283, 284, 285, 286])))))))))))))))) ▸ List.mem_range.mpr h
def okM (M : Nat) : Prop := ∀ e ∈ mK M, okQ M e.2
theorem ok_all_0 : ∀ M ∈ ([0, 1, 2, 3, 4, 5, 6, 7, 8, 9, 10, 11, 12, 13, 14, 15, 16, 17, 18, 19] : List Nat), okM M := List.forall_mem_cons.mpr ⟨ok_0, List.forall_mem_cons.mpr ⟨ok_1, List.forall_mem_cons.mpr ⟨ok_2, List.forall_mem_cons.mpr ⟨ok_3, List.forall_mem_cons.mpr ⟨ok_4, List.forall_mem_cons.mpr ⟨ok_5, List.forall_mem_cons.mpr ⟨ok_6, List.forall_mem_cons.mpr ⟨ok_7, List.forall_mem_cons.mpr ⟨ok_8, List.forall_mem_cons.mpr ⟨ok_9, List.forall_mem_cons.mpr ⟨ok_10, List.forall_mem_cons.mpr ⟨ok_11, List.forall_mem_cons.mpr ⟨ok_12, List.forall_mem_cons.mpr ⟨ok_13, List.forall_mem_cons.mpr ⟨ok_14, List.forall_mem_cons.mpr ⟨ok_15, List.forall_mem_cons.mpr ⟨ok_16, List.forall_mem_cons.mpr ⟨ok_17, List.forall_mem_cons.mpr ⟨ok_18, List.forall_mem_cons.mpr ⟨ok_19, fun _ h => absurd h List.not_mem_nil⟩⟩⟩⟩⟩⟩⟩⟩⟩⟩⟩⟩⟩⟩⟩⟩⟩⟩⟩⟩
theorem ok_all_1 : ∀ M ∈ ([20, 21, 22, 23, 24, 25, 26, 27, 28, 29, 30, 31, 32, 33, 34, 35, 36, 37, 38, 39] : List Nat), okM M := List.forall_mem_cons.mpr ⟨ok_20, List.forall_mem_cons.mpr ⟨ok_21, List.forall_mem_cons.mpr ⟨ok_22, List.forall_mem_cons.mpr ⟨ok_23, List.forall_mem_cons.mpr ⟨ok_24, List.forall_mem_cons.mpr ⟨ok_25, List.forall_mem_cons.mpr ⟨ok_26, List.forall_mem_cons.mpr ⟨ok_27, List.forall_mem_cons.mpr ⟨ok_28, List.forall_mem_cons.mpr ⟨ok_29, List.forall_mem_cons.mpr ⟨ok_30, List.forall_mem_cons.mpr ⟨ok_31, List.forall_mem_cons.mpr ⟨ok_32, List.forall_mem_cons.mpr ⟨ok_33, List.forall_mem_cons.mpr ⟨ok_34, List.forall_mem_cons.mpr ⟨ok_35, List.forall_mem_cons.mpr ⟨ok_36, List.forall_mem_cons.mpr ⟨ok_37, List.forall_mem_cons.mpr ⟨ok_38, List.forall_mem_cons.mpr ⟨ok_39, fun _ h => absurd h List.not_mem_nil⟩⟩⟩⟩⟩⟩⟩⟩⟩⟩⟩⟩⟩⟩⟩⟩⟩⟩⟩⟩
theorem ok_all_2 : ∀ M ∈ ([40, 41, 42, 43, 44, 45, 46, 47, 48, 49, 50, 51, 52, 53, 54, 55, 56, 57, 58, 59] : List Nat), okM M := List.forall_mem_cons.mpr ⟨ok_40, List.forall_mem_cons.mpr ⟨ok_41, List.forall_mem_cons.mpr ⟨ok_42, List.forall_mem_cons.mpr ⟨ok_43, List.forall_mem_cons.mpr ⟨ok_44, List.forall_mem_cons.mpr ⟨ok_45, List.forall_mem_cons.mpr ⟨ok_46, List.forall_mem_cons.mpr ⟨ok_47, List.forall_mem_cons.mpr ⟨ok_48, List.forall_mem_cons.mpr ⟨ok_49, List.forall_mem_cons.mpr ⟨ok_50, List.forall_mem_cons.mpr ⟨ok_51, List.forall_mem_cons.mpr ⟨ok_52, List.forall_mem_cons.mpr ⟨ok_53, List.forall_mem_cons.mpr ⟨ok_54, List.forall_mem_cons.mpr ⟨ok_55, List.forall_mem_cons.mpr ⟨ok_56, List.forall_mem_cons.mpr ⟨ok_57, List.forall_mem_cons.mpr ⟨ok_58, List.forall_mem_cons.mpr ⟨ok_59, fun _ h => absurd h List.not_mem_nil⟩⟩⟩⟩⟩⟩⟩⟩⟩⟩⟩⟩⟩⟩⟩⟩⟩⟩⟩⟩
theorem ok_all_3 : ∀ M ∈ ([60, 61, 62, 63, 64, 65, 66, 67, 68, 69, 70, 71, 72, 73, 74, 75, 76, 77, 78, 79] : List Nat), okM M := List.forall_mem_cons.mpr ⟨ok_60, List.forall_mem_cons.mpr ⟨ok_61, List.forall_mem_cons.mpr ⟨ok_62, List.forall_mem_cons.mpr ⟨ok_63, List.forall_mem_cons.mpr ⟨ok_64, List.forall_mem_cons.mpr ⟨ok_65, List.forall_mem_cons.mpr ⟨ok_66, List.forall_mem_cons.mpr ⟨ok_67, List.forall_mem_cons.mpr ⟨ok_68, List.forall_mem_cons.mpr ⟨ok_69, List.forall_mem_cons.mpr ⟨ok_70, List.forall_mem_cons.mpr ⟨ok_71, List.forall_mem_cons.mpr ⟨ok_72, List.forall_mem_cons.mpr ⟨ok_73, List.forall_mem_cons.mpr ⟨ok_74, List.forall_mem_cons.mpr ⟨ok_75, List.forall_mem_cons.mpr ⟨ok_76, List.forall_mem_cons.mpr ⟨ok_77, List.forall_mem_cons.mpr ⟨ok_78, List.forall_mem_cons.mpr ⟨ok_79, fun _ h => absurd h List.not_mem_nil⟩⟩⟩⟩⟩⟩⟩⟩⟩⟩⟩⟩⟩⟩⟩⟩⟩⟩⟩⟩
theorem ok_all_4 : ∀ M ∈ ([80, 81, 82, 83, 84, 85, 86, 87, 88, 89, 90, 91, 92, 93, 94, 95, 96, 97, 98, 99] : List Nat), okM M := List.forall_mem_cons.mpr ⟨ok_80, List.forall_mem_cons.mpr ⟨ok_81, List.forall_mem_cons.mpr ⟨ok_82, List.forall_mem_cons.mpr ⟨ok_83, List.forall_mem_cons.mpr ⟨ok_84, List.forall_mem_cons.mpr ⟨ok_85, List.forall_mem_cons.mpr ⟨ok_86, List.forall_mem_cons.mpr ⟨ok_87, List.forall_mem_cons.mpr ⟨ok_88, List.forall_mem_cons.mpr ⟨ok_89, List.forall_mem_cons.mpr ⟨ok_90, List.forall_mem_cons.mpr ⟨ok_91, List.forall_mem_cons.mpr ⟨ok_92, List.forall_mem_cons.mpr ⟨ok_93, List.forall_mem_cons.mpr ⟨ok_94, List.forall_mem_cons.mpr ⟨ok_95, List.forall_mem_cons.mpr ⟨ok_96, List.forall_mem_cons.mpr ⟨ok_97, List.forall_mem_cons.mpr ⟨ok_98, List.forall_mem_cons.mpr ⟨ok_99, fun _ h => absurd h List.not_mem_nil⟩⟩⟩⟩⟩⟩⟩⟩⟩⟩⟩⟩⟩⟩⟩⟩⟩⟩⟩⟩
theorem ok_all_5 : ∀ M ∈ ([100, 101, 102, 103, 104, 105, 106, 107, 108, 109, 110, 111, 112, 113, 114, 115, 116, 117, 118, 119] : List Nat), okM M := List.forall_mem_cons.mpr ⟨ok_100, List.forall_mem_cons.mpr ⟨ok_101, List.forall_mem_cons.mpr ⟨ok_102, List.forall_mem_cons.mpr ⟨ok_103, List.forall_mem_cons.mpr ⟨ok_104, List.forall_mem_cons.mpr ⟨ok_105, List.forall_mem_cons.mpr ⟨ok_106, List.forall_mem_cons.mpr ⟨ok_107, List.forall_mem_cons.mpr ⟨ok_108, List.forall_mem_cons.mpr ⟨ok_109, List.forall_mem_cons.mpr ⟨ok_110, List.forall_mem_cons.mpr ⟨ok_111, List.forall_mem_cons.mpr ⟨ok_112, List.forall_mem_cons.mpr ⟨ok_113, List.forall_mem_cons.mpr ⟨ok_114, List.forall_mem_cons.mpr ⟨ok_115, List.forall_mem_cons.mpr ⟨ok_116, List.forall_mem_cons.mpr ⟨ok_117, List.forall_mem_cons.mpr ⟨ok_118, List.forall_mem_cons.mpr ⟨ok_119, fun _ h => absurd h List.not_mem_nil⟩⟩⟩⟩⟩⟩⟩⟩⟩⟩⟩⟩⟩⟩⟩⟩⟩⟩⟩⟩
theorem ok_all_6 : ∀ M ∈ ([120, 121, 122, 123, 124, 125, 126, 127, 128, 129, 130, 131, 132, 133, 134, 135, 136, 137, 138, 139] : List Nat), okM M := List.forall_mem_cons.mpr ⟨ok_120, List.forall_mem_cons.mpr ⟨ok_121, List.forall_mem_cons.mpr ⟨ok_122, List.forall_mem_cons.mpr ⟨ok_123, List.forall_mem_cons.mpr ⟨ok_124, List.forall_mem_cons.mpr ⟨ok_125, List.forall_mem_cons.mpr ⟨ok_126, List.forall_mem_cons.mpr ⟨ok_127, List.forall_mem_cons.mpr ⟨ok_128, List.forall_mem_cons.mpr ⟨ok_129, List.forall_mem_cons.mpr ⟨ok_130, List.forall_mem_cons.mpr ⟨ok_131, List.forall_mem_cons.mpr ⟨ok_132, List.forall_mem_cons.mpr ⟨ok_133, List.forall_mem_cons.mpr ⟨ok_134, List.forall_mem_cons.mpr ⟨ok_135, List.forall_mem_cons.mpr ⟨ok_136, List.forall_mem_cons.mpr ⟨ok_137, List.forall_mem_cons.mpr ⟨ok_138, List.forall_mem_cons.mpr ⟨ok_139, fun _ h => absurd h List.not_mem_nil⟩⟩⟩⟩⟩⟩⟩⟩⟩⟩⟩⟩⟩⟩⟩⟩⟩⟩⟩⟩
theorem ok_all_7 : ∀ M ∈ ([140, 141, 142, 143, 144, 145, 146, 147, 148, 149, 150, 151, 152, 153, 154, 155, 156, 157, 158, 159] : List Nat), okM M := List.forall_mem_cons.mpr ⟨ok_140, List.forall_mem_cons.mpr ⟨ok_141, List.forall_mem_cons.mpr ⟨ok_142, List.forall_mem_cons.mpr ⟨ok_143, List.forall_mem_cons.mpr ⟨ok_144, List.forall_mem_cons.mpr ⟨ok_145, List.forall_mem_cons.mpr ⟨ok_146, List.forall_mem_cons.mpr ⟨ok_147, List.forall_mem_cons.mpr ⟨ok_148, List.forall_mem_cons.mpr ⟨ok_149, List.forall_mem_cons.mpr ⟨ok_150, List.forall_mem_cons.mpr ⟨ok_151, List.forall_mem_cons.mpr ⟨ok_152, List.forall_mem_cons.mpr ⟨ok_153, List.forall_mem_cons.mpr ⟨ok_154, List.forall_mem_cons.mpr ⟨ok_155, List.forall_mem_cons.mpr ⟨ok_156, List.forall_mem_cons.mpr ⟨ok_157, List.forall_mem_cons.mpr ⟨ok_158, List.forall_mem_cons.mpr ⟨ok_159, fun _ h => absurd h List.not_mem_nil⟩⟩⟩⟩⟩⟩⟩⟩⟩⟩⟩⟩⟩⟩⟩⟩⟩⟩⟩⟩
theorem ok_all_8 : ∀ M ∈ ([160, 161, 162, 163, 164, 165, 166, 167, 168, 169, 170, 171, 172, 173, 174, 175, 176, 177, 178, 179] : List Nat), okM M := List.forall_mem_cons.mpr ⟨ok_160, List.forall_mem_cons.mpr ⟨ok_161, List.forall_mem_cons.mpr ⟨ok_162, List.forall_mem_cons.mpr ⟨ok_163, List.forall_mem_cons.mpr ⟨ok_164, List.forall_mem_cons.mpr ⟨ok_165, List.forall_mem_cons.mpr ⟨ok_166, List.forall_mem_cons.mpr ⟨ok_167, List.forall_mem_cons.mpr ⟨ok_168, List.forall_mem_cons.mpr ⟨ok_169, List.forall_mem_cons.mpr ⟨ok_170, List.forall_mem_cons.mpr ⟨ok_171, List.forall_mem_cons.mpr ⟨ok_172, List.forall_mem_cons.mpr ⟨ok_173, List.forall_mem_cons.mpr ⟨ok_174, List.forall_mem_cons.mpr ⟨ok_175, List.forall_mem_cons.mpr ⟨ok_176, List.forall_mem_cons.mpr ⟨ok_177, List.forall_mem_cons.mpr ⟨ok_178, List.forall_mem_cons.mpr ⟨ok_179, fun _ h => absurd h List.not_mem_nil⟩⟩⟩⟩⟩⟩⟩⟩⟩⟩⟩⟩⟩⟩⟩⟩⟩⟩⟩⟩
theorem ok_all_9 : ∀ M ∈ ([180, 181, 182, 183, 184, 185, 186, 187, 188, 189, 190, 191, 192, 193, 194, 195, 196, 197, 198, 199] : List Nat), okM M := List.forall_mem_cons.mpr ⟨ok_180, List.forall_mem_cons.mpr ⟨ok_181, List.forall_mem_cons.mpr ⟨ok_182, List.forall_mem_cons.mpr ⟨ok_183, List.forall_mem_cons.mpr ⟨ok_184, List.forall_mem_cons.mpr ⟨ok_185, List.forall_mem_cons.mpr ⟨ok_186, List.forall_mem_cons.mpr ⟨ok_187, List.forall_mem_cons.mpr ⟨ok_188, List.forall_mem_cons.mpr ⟨ok_189, List.forall_mem_cons.mpr ⟨ok_190, List.forall_mem_cons.mpr ⟨ok_191, List.forall_mem_cons.mpr ⟨ok_192, List.forall_mem_cons.mpr ⟨ok_193, List.forall_mem_cons.mpr ⟨ok_194, List.forall_mem_cons.mpr ⟨ok_195, List.forall_mem_cons.mpr ⟨ok_196, List.forall_mem_cons.mpr ⟨ok_197, List.forall_mem_cons.mpr ⟨ok_198, List.forall_mem_cons.mpr ⟨ok_199, fun _ h => absurd h List.not_mem_nil⟩⟩⟩⟩⟩⟩⟩⟩⟩⟩⟩⟩⟩⟩⟩⟩⟩⟩⟩⟩
theorem ok_all_10 : ∀ M ∈ ([200, 201, 202, 203, 204, 205, 206, 207, 208, 209, 210, 211, 212, 213, 214, 215, 216, 217, 218, 219] : List Nat), okM M := List.forall_mem_cons.mpr ⟨ok_200, List.forall_mem_cons.mpr ⟨ok_201, List.forall_mem_cons.mpr ⟨ok_202, List.forall_mem_cons.mpr ⟨ok_203, List.forall_mem_cons.mpr ⟨ok_204, List.forall_mem_cons.mpr ⟨ok_205, List.forall_mem_cons.mpr ⟨ok_206, List.forall_mem_cons.mpr ⟨ok_207, List.forall_mem_cons.mpr ⟨ok_208, List.forall_mem_cons.mpr ⟨ok_209, List.forall_mem_cons.mpr ⟨ok_210, List.forall_mem_cons.mpr ⟨ok_211, List.forall_mem_cons.mpr ⟨ok_212, List.forall_mem_cons.mpr ⟨ok_213, List.forall_mem_cons.mpr ⟨ok_214, List.forall_mem_cons.mpr ⟨ok_215, List.forall_mem_cons.mpr ⟨ok_216, List.forall_mem_cons.mpr ⟨ok_217, List.forall_mem_cons.mpr ⟨ok_218, List.forall_mem_cons.mpr ⟨ok_219, fun _ h => absurd h List.not_mem_nil⟩⟩⟩⟩⟩⟩⟩⟩⟩⟩⟩⟩⟩⟩⟩⟩⟩⟩⟩⟩
theorem ok_all_11 : ∀ M ∈ ([220, 221, 222, 223, 224, 225, 226, 227, 228, 229, 230, 231, 232, 233, 234, 235, 236, 237, 238, 239] : List Nat), okM M := List.forall_mem_cons.mpr ⟨ok_220, List.forall_mem_cons.mpr ⟨ok_221, List.forall_mem_cons.mpr ⟨ok_222, List.forall_mem_cons.mpr ⟨ok_223, List.forall_mem_cons.mpr ⟨ok_224, List.forall_mem_cons.mpr ⟨ok_225, List.forall_mem_cons.mpr ⟨ok_226, List.forall_mem_cons.mpr ⟨ok_227, List.forall_mem_cons.mpr ⟨ok_228, List.forall_mem_cons.mpr ⟨ok_229, List.forall_mem_cons.mpr ⟨ok_230, List.forall_mem_cons.mpr ⟨ok_231, List.forall_mem_cons.mpr ⟨ok_232, List.forall_mem_cons.mpr ⟨ok_233, List.forall_mem_cons.mpr ⟨ok_234, List.forall_mem_cons.mpr ⟨ok_235, List.forall_mem_cons.mpr ⟨ok_236, List.forall_mem_cons.mpr ⟨ok_237, List.forall_mem_cons.mpr ⟨ok_238, List.forall_mem_cons.mpr ⟨ok_239, fun _ h => absurd h List.not_mem_nil⟩⟩⟩⟩⟩⟩⟩⟩⟩⟩⟩⟩⟩⟩⟩⟩⟩⟩⟩⟩
theorem ok_all_12 : ∀ M ∈ ([240, 241, 242, 243, 244, 245, 246, 247, 248, 249, 250, 251, 252, 253, 254, 255, 256, 257, 258, 259] : List Nat), okM M := List.forall_mem_cons.mpr ⟨ok_240, List.forall_mem_cons.mpr ⟨ok_241, List.forall_mem_cons.mpr ⟨ok_242, List.forall_mem_cons.mpr ⟨ok_243, List.forall_mem_cons.mpr ⟨ok_244, List.forall_mem_cons.mpr ⟨ok_245, List.forall_mem_cons.mpr ⟨ok_246, List.forall_mem_cons.mpr ⟨ok_247, List.forall_mem_cons.mpr ⟨ok_248, List.forall_mem_cons.mpr ⟨ok_249, List.forall_mem_cons.mpr ⟨ok_250, List.forall_mem_cons.mpr ⟨ok_251, List.forall_mem_cons.mpr ⟨ok_252, List.forall_mem_cons.mpr ⟨ok_253, List.forall_mem_cons.mpr ⟨ok_254, List.forall_mem_cons.mpr ⟨ok_255, List.forall_mem_cons.mpr ⟨ok_256, List.forall_mem_cons.mpr ⟨ok_257, List.forall_mem_cons.mpr ⟨ok_258, List.forall_mem_cons.mpr ⟨ok_259, fun _ h => absurd h List.not_mem_nil⟩⟩⟩⟩⟩⟩⟩⟩⟩⟩⟩⟩⟩⟩⟩⟩⟩⟩⟩⟩
theorem ok_all_13 : ∀ M ∈ ([260, 261, 262, 263, 264, 265, 266, 267, 268, 269, 270, 271, 272, 273, 274, 275, 276, 277, 278, 279] : List Nat), okM M := List.forall_mem_cons.mpr ⟨ok_260, List.forall_mem_cons.mpr ⟨ok_261, List.forall_mem_cons.mpr ⟨ok_262, List.forall_mem_cons.mpr ⟨ok_263, List.forall_mem_cons.mpr ⟨ok_264, List.forall_mem_cons.mpr ⟨ok_265, List.forall_mem_cons.mpr ⟨ok_266, List.forall_mem_cons.mpr ⟨ok_267, List.forall_mem_cons.mpr ⟨ok_268, List.forall_mem_cons.mpr ⟨ok_269, List.forall_mem_cons.mpr ⟨ok_270, List.forall_mem_cons.mpr ⟨ok_271, List.forall_mem_cons.mpr ⟨ok_272, List.forall_mem_cons.mpr ⟨ok_273, List.forall_mem_cons.mpr ⟨ok_274, List.forall_mem_cons.mpr ⟨ok_275, List.forall_mem_cons.mpr ⟨ok_276, List.forall_mem_cons.mpr ⟨ok_277, List.forall_mem_cons.mpr ⟨ok_278, List.forall_mem_cons.mpr ⟨ok_279, fun _ h => absurd h List.not_mem_nil⟩⟩⟩⟩⟩⟩⟩⟩⟩⟩⟩⟩⟩⟩⟩⟩⟩⟩⟩⟩
theorem ok_all_14 : ∀ M ∈ ([280, 281, 282, 283, 284, 285, 286] : List Nat), okM M := List.forall_mem_cons.mpr ⟨ok_280, List.forall_mem_cons.mpr ⟨ok_281, List.forall_mem_cons.mpr ⟨ok_282, List.forall_mem_cons.mpr ⟨ok_283, List.forall_mem_cons.mpr ⟨ok_284, List.forall_mem_cons.mpr ⟨ok_285, List.forall_mem_cons.mpr ⟨ok_286, fun _ h => absurd h List.not_mem_nil⟩⟩⟩⟩⟩⟩⟩
theorem ok_all (M : Nat) (h : M < 287) : okM M := (List.forall_mem_append.mpr ⟨ok_all_0, List.forall_mem_append.mpr ⟨ok_all_1, List.forall_mem_append.mpr ⟨ok_all_2, List.forall_mem_append.mpr ⟨ok_all_3, List.forall_mem_append.mpr ⟨ok_all_4, List.forall_mem_append.mpr ⟨ok_all_5, List.forall_mem_append.mpr ⟨ok_all_6, List.forall_mem_append.mpr ⟨ok_all_7, List.forall_mem_append.mpr ⟨ok_all_8, List.forall_mem_append.mpr ⟨ok_all_9, List.forall_mem_append.mpr ⟨ok_all_10, List.forall_mem_append.mpr ⟨ok_all_11, List.forall_mem_append.mpr ⟨ok_all_12, List.forall_mem_append.mpr ⟨ok_all_13, ok_all_14⟩⟩⟩⟩⟩⟩⟩⟩⟩⟩⟩⟩⟩⟩) M (m_range287 h)
def cdM (M : Nat) : Prop := Cond.code (mY M) (mB M) (mL M) (mR M) ∈ gT ∧ Cond.initialized (mY M).cls ∈ gT
theorem cd_0 : cdM 0 := ⟨gT_t 30 (by decide +kernel) (by decide +kernel), gT_t 1 (by decide +kernel) (by decide +kernel)⟩
theorem cd_1 : cdM 1 := ⟨gT_t 38 (by decide +kernel) (by decide +kernel), gT_t 2 (by decide +kernel) (by decide +kernel)⟩
theorem cd_2 : cdM 2 := ⟨gT_t 79 (by decide +kernel) (by decide +kernel), gT_t 3 (by decide +kernel) (by decide +kernel)⟩
theorem cd_3 : cdM 3 := ⟨gT_t 88 (by decide +kernel) (by decide +kernel), gT_t 4 (by decide +kernel) (by decide +kernel)⟩
theorem cd_4 : cdM 4 := ⟨gT_t 137 (by decide +kernel) (by decide +kernel), gT_t 5 (by decide +kernel) (by decide +kernel)⟩
theorem cd_5 : cdM 5 := ⟨gT_t 229 (by decide +kernel) (by decide +kernel), gT_t 6 (by decide +kernel) (by decide +kernel)⟩
theorem cd_6 : cdM 6 := ⟨gT_t 262 (by decide +kernel) (by decide +kernel), gT_t 7 (by decide +kernel) (by decide +kernel)⟩
theorem cd_7 : cdM 7 := ⟨gT_t 281 (by decide +kernel) (by decide +kernel), gT_t 8 (by decide +kernel) (by decide +kernel)⟩
theorem cd_8 : cdM 8 := ⟨gT_t 306 (by decide +kernel) (by decide +kernel), gT_t 9 (by decide +kernel) (by decide +kernel)⟩
theorem cd_9 : cdM 9 := ⟨gT_t 355 (by decide +kernel) (by decide +kernel), gT_t 10 (by decide +kernel) (by decide +kernel)⟩
theorem cd_10 : cdM 10 := ⟨gT_t 406 (by decide +kernel) (by decide +kernel), gT_t 11 (by decide +kernel) (by decide +kernel)⟩
theorem cd_11 : cdM 11 := ⟨gT_t 436 (by decide +kernel) (by decide +kernel), gT_t 12 (by decide +kernel) (by decide +kernel)⟩
theorem cd_12 : cdM 12 := ⟨gT_t 519 (by decide +kernel) (by decide +kernel), gT_t 1 (by decide +kernel) (by decide +kernel)⟩
theorem cd_13 : cdM 13 := ⟨gT_t 523 (by decide +kernel) (by decide +kernel), gT_t 1 (by decide +kernel) (by decide +kernel)⟩
theorem cd_14 : cdM 14 := ⟨gT_t 527 (by decide +kernel) (by decide +kernel), gT_t 1 (by decide +kernel) (by decide +kernel)⟩
theorem cd_15 : cdM 15 := ⟨gT_t 531 (by decide +kernel) (by decide +kernel), gT_t 2 (by decide +kernel) (by decide +kernel)⟩
theorem cd_16 : cdM 16 := ⟨gT_t 535 (by decide +kernel) (by decide +kernel), gT_t 2 (by decide +kernel) (by decide +kernel)⟩
theorem cd_17 : cdM 17 := ⟨gT_t 538 (by decide +kernel) (by decide +kernel), gT_t 14 (by decide +kernel) (by decide +kernel)⟩
theorem cd_18 : cdM 18 := ⟨gT_t 542 (by decide +kernel) (by decide +kernel), gT_t 3 (by decide +kernel) (by decide +kernel)⟩
theorem cd_19 : cdM 19 := ⟨gT_t 546 (by decide +kernel) (by decide +kernel), gT_t 2 (by decide +kernel) (by decide +kernel)⟩
theorem cd_20 : cdM 20 := ⟨gT_t 549 (by decide +kernel) (by decide +kernel), gT_t 1 (by decide +kernel) (by decide +kernel)⟩
theorem cd_21 : cdM 21 := ⟨gT_t 552 (by decide +kernel) (by decide +kernel), gT_t 1 (by decide +kernel) (by decide +kernel)⟩
theorem cd_22 : cdM 22 := ⟨gT_t 556 (by decide +kernel) (by decide +kernel), gT_t 2 (by decide +kernel) (by decide +kernel)⟩
theorem cd_23 : cdM 23 := ⟨gT_t 560 (by decide +kernel) (by decide +kernel), gT_t 2 (by decide +kernel) (by decide +kernel)⟩
theorem cd_24 : cdM 24 := ⟨gT_t 565 (by decide +kernel) (by decide +kernel), gT_t 15 (by decide +kernel) (by decide +kernel)⟩
theorem cd_25 : cdM 25 := ⟨gT_t 569 (by decide +kernel) (by decide +kernel), gT_t 15 (by decide +kernel) (by decide +kernel)⟩
theorem cd_26 : cdM 26 := ⟨gT_t 574 (by decide +kernel) (by decide +kernel), gT_t 16 (by decide +kernel) (by decide +kernel)⟩
theorem cd_27 : cdM 27 := ⟨gT_t 577 (by decide +kernel) (by decide +kernel), gT_t 15 (by decide +kernel) (by decide +kernel)⟩
theorem cd_28 : cdM 28 := ⟨gT_t 582 (by decide +kernel) (by decide +kernel), gT_t 17 (by decide +kernel) (by decide +kernel)⟩
theorem cd_29 : cdM 29 := ⟨gT_t 604 (by decide +kernel) (by decide +kernel), gT_t 2 (by decide +kernel) (by decide +kernel)⟩
theorem cd_30 : cdM 30 := ⟨gT_t 608 (by decide +kernel) (by decide +kernel), gT_t 2 (by decide +kernel) (by decide +kernel)⟩
theorem cd_31 : cdM 31 := ⟨gT_t 613 (by decide +kernel) (by decide +kernel), gT_t 2 (by decide +kernel) (by decide +kernel)⟩
theorem cd_32 : cdM 32 := ⟨gT_t 616 (by decide +kernel) (by decide +kernel), gT_t 1 (by decide +kernel) (by decide +kernel)⟩
theorem cd_33 : cdM 33 := ⟨gT_t 621 (by decide +kernel) (by decide +kernel), gT_t 15 (by decide +kernel) (by decide +kernel)⟩
theorem cd_34 : cdM 34 := ⟨gT_t 625 (by decide +kernel) (by decide +kernel), gT_t 15 (by decide +kernel) (by decide +kernel)⟩
theorem cd_35 : cdM 35 := ⟨gT_t 629 (by decide +kernel) (by decide +kernel), gT_t 15 (by decide +kernel) (by decide +kernel)⟩
theorem cd_36 : cdM 36 := ⟨gT_t 633 (by decide +kernel) (by decide +kernel), gT_t 15 (by decide +kernel) (by decide +kernel)⟩
theorem cd_37 : cdM 37 := ⟨gT_t 636 (by decide +kernel) (by decide +kernel), gT_t 16 (by decide +kernel) (by decide +kernel)⟩
theorem cd_38 : cdM 38 := ⟨gT_t 639 (by decide +kernel) (by decide +kernel), gT_t 16 (by decide +kernel) (by decide +kernel)⟩
theorem cd_39 : cdM 39 := ⟨gT_t 642 (by decide +kernel) (by decide +kernel), gT_t 14 (by decide +kernel) (by decide +kernel)⟩
theorem cd_40 : cdM 40 := ⟨gT_t 646 (by decide +kernel) (by decide +kernel), gT_t 16 (by decide +kernel) (by decide +kernel)⟩
theorem cd_41 : cdM 41 := ⟨gT_t 685 (by decide +kernel) (by decide +kernel), gT_t 2 (by decide +kernel) (by decide +kernel)⟩
theorem cd_42 : cdM 42 := ⟨gT_t 689 (by decide +kernel) (by decide +kernel), gT_t 2 (by decide +kernel) (by decide +kernel)⟩
theorem cd_43 : cdM 43 := ⟨gT_t 693 (by decide +kernel) (by decide +kernel), gT_t 2 (by decide +kernel) (by decide +kernel)⟩
theorem cd_44 : cdM 44 := ⟨gT_t 697 (by decide +kernel) (by decide +kernel), gT_t 2 (by decide +kernel) (by decide +kernel)⟩
theorem cd_45 : cdM 45 := ⟨gT_t 701 (by decide +kernel) (by decide +kernel), gT_t 2 (by decide +kernel) (by decide +kernel)⟩
theorem cd_46 : cdM 46 := ⟨gT_t 705 (by decide +kernel) (by decide +kernel), gT_t 2 (by decide +kernel) (by decide +kernel)⟩
theorem cd_47 : cdM 47 := ⟨gT_t 709 (by decide +kernel) (by decide +kernel), gT_t 4 (by decide +kernel) (by decide +kernel)⟩
theorem cd_48 : cdM 48 := ⟨gT_t 712 (by decide +kernel) (by decide +kernel), gT_t 1 (by decide +kernel) (by decide +kernel)⟩
theorem cd_49 : cdM 49 := ⟨gT_t 737 (by decide +kernel) (by decide +kernel), gT_t 2 (by decide +kernel) (by decide +kernel)⟩
theorem cd_50 : cdM 50 := ⟨gT_t 720 (by decide +kernel) (by decide +kernel), gT_t 2 (by decide +kernel) (by decide +kernel)⟩
theorem cd_51 : cdM 51 := ⟨gT_t 724 (by decide +kernel) (by decide +kernel), gT_t 2 (by decide +kernel) (by decide +kernel)⟩
theorem cd_52 : cdM 52 := ⟨gT_t 728 (by decide +kernel) (by decide +kernel), gT_t 2 (by decide +kernel) (by decide +kernel)⟩
theorem cd_53 : cdM 53 := ⟨gT_t 732 (by decide +kernel) (by decide +kernel), gT_t 2 (by decide +kernel) (by decide +kernel)⟩
theorem cd_54 : cdM 54 := ⟨gT_t 741 (by decide +kernel) (by decide +kernel), gT_t 7 (by decide +kernel) (by decide +kernel)⟩
theorem cd_55 : cdM 55 := ⟨gT_t 745 (by decide +kernel) (by decide +kernel), gT_t 7 (by decide +kernel) (by decide +kernel)⟩
theorem cd_56 : cdM 56 := ⟨gT_t 749 (by decide +kernel) (by decide +kernel), gT_t 7 (by decide +kernel) (by decide +kernel)⟩
theorem cd_57 : cdM 57 := ⟨gT_t 753 (by decide +kernel) (by decide +kernel), gT_t 8 (by decide +kernel) (by decide +kernel)⟩
theorem cd_58 : cdM 58 := ⟨gT_t 757 (by decide +kernel) (by decide +kernel), gT_t 1 (by decide +kernel) (by decide +kernel)⟩
theorem cd_59 : cdM 59 := ⟨gT_t 763 (by decide +kernel) (by decide +kernel), gT_t 1 (by decide +kernel) (by decide +kernel)⟩
theorem cd_60 : cdM 60 := ⟨gT_t 767 (by decide +kernel) (by decide +kernel), gT_t 2 (by decide +kernel) (by decide +kernel)⟩
theorem cd_61 : cdM 61 := ⟨gT_t 771 (by decide +kernel) (by decide +kernel), gT_t 6 (by decide +kernel) (by decide +kernel)⟩
theorem cd_62 : cdM 62 := ⟨gT_t 775 (by decide +kernel) (by decide +kernel), gT_t 6 (by decide +kernel) (by decide +kernel)⟩
theorem cd_63 : cdM 63 := ⟨gT_t 779 (by decide +kernel) (by decide +kernel), gT_t 6 (by decide +kernel) (by decide +kernel)⟩
theorem cd_64 : cdM 64 := ⟨gT_t 783 (by decide +kernel) (by decide +kernel), gT_t 6 (by decide +kernel) (by decide +kernel)⟩
theorem cd_65 : cdM 65 := ⟨gT_t 786 (by decide +kernel) (by decide +kernel), gT_t 1 (by decide +kernel) (by decide +kernel)⟩
theorem cd_66 : cdM 66 := ⟨gT_t 792 (by decide +kernel) (by decide +kernel), gT_t 1 (by decide +kernel) (by decide +kernel)⟩
theorem cd_67 : cdM 67 := ⟨gT_t 796 (by decide +kernel) (by decide +kernel), gT_t 1 (by decide +kernel) (by decide +kernel)⟩
theorem cd_68 : cdM 68 := ⟨gT_t 800 (by decide +kernel) (by decide +kernel), gT_t 1 (by decide +kernel) (by decide +kernel)⟩
theorem cd_69 : cdM 69 := ⟨gT_t 804 (by decide +kernel) (by decide +kernel), gT_t 1 (by decide +kernel) (by decide +kernel)⟩
theorem cd_70 : cdM 70 := ⟨gT_t 808 (by decide +kernel) (by decide +kernel), gT_t 1 (by decide +kernel) (by decide +kernel)⟩
theorem cd_71 : cdM 71 := ⟨gT_t 812 (by decide +kernel) (by decide +kernel), gT_t 4 (by decide +kernel) (by decide +kernel)⟩
theorem cd_72 : cdM 72 := ⟨gT_t 816 (by decide +kernel) (by decide +kernel), gT_t 5 (by decide +kernel) (by decide +kernel)⟩
theorem cd_73 : cdM 73 := ⟨gT_t 820 (by decide +kernel) (by decide +kernel), gT_t 1 (by decide +kernel) (by decide +kernel)⟩
theorem cd_74 : cdM 74 := ⟨gT_t 824 (by decide +kernel) (by decide +kernel), gT_t 1 (by decide +kernel) (by decide +kernel)⟩
theorem cd_75 : cdM 75 := ⟨gT_t 828 (by decide +kernel) (by decide +kernel), gT_t 1 (by decide +kernel) (by decide +kernel)⟩
theorem cd_76 : cdM 76 := ⟨gT_t 833 (by decide +kernel) (by decide +kernel), gT_t 1 (by decide +kernel) (by decide +kernel)⟩
theorem cd_77 : cdM 77 := ⟨gT_t 837 (by decide +kernel) (by decide +kernel), gT_t 9 (by decide +kernel) (by decide +kernel)⟩
theorem cd_78 : cdM 78 := ⟨gT_t 841 (by decide +kernel) (by decide +kernel), gT_t 7 (by decide +kernel) (by decide +kernel)⟩
theorem cd_79 : cdM 79 := ⟨gT_t 846 (by decide +kernel) (by decide +kernel), gT_t 10 (by decide +kernel) (by decide +kernel)⟩
theorem cd_80 : cdM 80 := ⟨gT_t 850 (by decide +kernel) (by decide +kernel), gT_t 10 (by decide +kernel) (by decide +kernel)⟩
theorem cd_81 : cdM 81 := ⟨gT_t 854 (by decide +kernel) (by decide +kernel), gT_t 9 (by decide +kernel) (by decide +kernel)⟩
theorem cd_82 : cdM 82 := ⟨gT_t 858 (by decide +kernel) (by decide +kernel), gT_t 9 (by decide +kernel) (by decide +kernel)⟩
theorem cd_83 : cdM 83 := ⟨gT_t 863 (by decide +kernel) (by decide +kernel), gT_t 9 (by decide +kernel) (by decide +kernel)⟩
theorem cd_84 : cdM 84 := ⟨gT_t 867 (by decide +kernel) (by decide +kernel), gT_t 4 (by decide +kernel) (by decide +kernel)⟩
theorem cd_85 : cdM 85 := ⟨gT_t 872 (by decide +kernel) (by decide +kernel), gT_t 9 (by decide +kernel) (by decide +kernel)⟩
theorem cd_86 : cdM 86 := ⟨gT_t 876 (by decide +kernel) (by decide +kernel), gT_t 9 (by decide +kernel) (by decide +kernel)⟩
theorem cd_87 : cdM 87 := ⟨gT_t 880 (by decide +kernel) (by decide +kernel), gT_t 9 (by decide +kernel) (by decide +kernel)⟩
theorem cd_88 : cdM 88 := ⟨gT_t 884 (by decide +kernel) (by decide +kernel), gT_t 9 (by decide +kernel) (by decide +kernel)⟩
theorem cd_89 : cdM 89 := ⟨gT_t 889 (by decide +kernel) (by decide +kernel), gT_t 9 (by decide +kernel) (by decide +kernel)⟩
theorem cd_90 : cdM 90 := ⟨gT_t 893 (by decide +kernel) (by decide +kernel), gT_t 10 (by decide +kernel) (by decide +kernel)⟩
theorem cd_91 : cdM 91 := ⟨gT_t 897 (by decide +kernel) (by decide +kernel), gT_t 9 (by decide +kernel) (by decide +kernel)⟩
theorem cd_92 : cdM 92 := ⟨gT_t 901 (by decide +kernel) (by decide +kernel), gT_t 9 (by decide +kernel) (by decide +kernel)⟩
theorem cd_93 : cdM 93 := ⟨gT_t 905 (by decide +kernel) (by decide +kernel), gT_t 5 (by decide +kernel) (by decide +kernel)⟩
theorem cd_94 : cdM 94 := ⟨gT_t 909 (by decide +kernel) (by decide +kernel), gT_t 4 (by decide +kernel) (by decide +kernel)⟩
theorem cd_95 : cdM 95 := ⟨gT_t 914 (by decide +kernel) (by decide +kernel), gT_t 10 (by decide +kernel) (by decide +kernel)⟩
theorem cd_96 : cdM 96 := ⟨gT_t 918 (by decide +kernel) (by decide +kernel), gT_t 11 (by decide +kernel) (by decide +kernel)⟩
theorem cd_97 : cdM 97 := ⟨gT_t 922 (by decide +kernel) (by decide +kernel), gT_t 10 (by decide +kernel) (by decide +kernel)⟩
theorem cd_98 : cdM 98 := ⟨gT_t 926 (by decide +kernel) (by decide +kernel), gT_t 11 (by decide +kernel) (by decide +kernel)⟩
theorem cd_99 : cdM 99 := ⟨gT_t 931 (by decide +kernel) (by decide +kernel), gT_t 3 (by decide +kernel) (by decide +kernel)⟩
theorem cd_100 : cdM 100 := ⟨gT_t 937 (by decide +kernel) (by decide +kernel), gT_t 11 (by decide +kernel) (by decide +kernel)⟩
theorem cd_101 : cdM 101 := ⟨gT_t 941 (by decide +kernel) (by decide +kernel), gT_t 11 (by decide +kernel) (by decide +kernel)⟩
theorem cd_102 : cdM 102 := ⟨gT_t 945 (by decide +kernel) (by decide +kernel), gT_t 11 (by decide +kernel) (by decide +kernel)⟩
theorem cd_103 : cdM 103 := ⟨gT_t 949 (by decide +kernel) (by decide +kernel), gT_t 14 (by decide +kernel) (by decide +kernel)⟩
theorem cd_104 : cdM 104 := ⟨gT_t 953 (by decide +kernel) (by decide +kernel), gT_t 1 (by decide +kernel) (by decide +kernel)⟩
theorem cd_105 : cdM 105 := ⟨gT_t 956 (by decide +kernel) (by decide +kernel), gT_t 1 (by decide +kernel) (by decide +kernel)⟩
theorem cd_106 : cdM 106 := ⟨gT_t 961 (by decide +kernel) (by decide +kernel), gT_t 1 (by decide +kernel) (by decide +kernel)⟩
theorem cd_107 : cdM 107 := ⟨gT_t 965 (by decide +kernel) (by decide +kernel), gT_t 1 (by decide +kernel) (by decide +kernel)⟩
theorem cd_108 : cdM 108 := ⟨gT_t 969 (by decide +kernel) (by decide +kernel), gT_t 1 (by decide +kernel) (by decide +kernel)⟩
theorem cd_109 : cdM 109 := ⟨gT_t 973 (by decide +kernel) (by decide +kernel), gT_t 9 (by decide +kernel) (by decide +kernel)⟩
theorem cd_110 : cdM 110 := ⟨gT_t 978 (by decide +kernel) (by decide +kernel), gT_t 9 (by decide +kernel) (by decide +kernel)⟩
theorem cd_111 : cdM 111 := ⟨gT_t 982 (by decide +kernel) (by decide +kernel), gT_t 1 (by decide +kernel) (by decide +kernel)⟩
theorem cd_112 : cdM 112 := ⟨gT_t 986 (by decide +kernel) (by decide +kernel), gT_t 1 (by decide +kernel) (by decide +kernel)⟩
theorem cd_113 : cdM 113 := ⟨gT_t 990 (by decide +kernel) (by decide +kernel), gT_t 1 (by decide +kernel) (by decide +kernel)⟩
theorem cd_114 : cdM 114 := ⟨gT_t 994 (by decide +kernel) (by decide +kernel), gT_t 1 (by decide +kernel) (by decide +kernel)⟩
theorem cd_115 : cdM 115 := ⟨gT_t 998 (by decide +kernel) (by decide +kernel), gT_t 1 (by decide +kernel) (by decide +kernel)⟩
theorem cd_116 : cdM 116 := ⟨gT_t 1002 (by decide +kernel) (by decide +kernel), gT_t 1 (by decide +kernel) (by decide +kernel)⟩
theorem cd_117 : cdM 117 := ⟨gT_t 1006 (by decide +kernel) (by decide +kernel), gT_t 1 (by decide +kernel) (by decide +kernel)⟩
theorem cd_118 : cdM 118 := ⟨gT_t 1010 (by decide +kernel) (by decide +kernel), gT_t 1 (by decide +kernel) (by decide +kernel)⟩
theorem cd_119 : cdM 119 := ⟨gT_t 1014 (by decide +kernel) (by decide +kernel), gT_t 1 (by decide +kernel) (by decide +kernel)⟩
theorem cd_120 : cdM 120 := ⟨gT_t 1018 (by decide +kernel) (by decide +kernel), gT_t 1 (by decide +kernel) (by decide +kernel)⟩
theorem cd_121 : cdM 121 := ⟨gT_t 1024 (by decide +kernel) (by decide +kernel), gT_t 1 (by decide +kernel) (by decide +kernel)⟩
theorem cd_122 : cdM 122 := ⟨gT_t 1028 (by decide +kernel) (by decide +kernel), gT_t 1 (by decide +kernel) (by decide +kernel)⟩
theorem cd_123 : cdM 123 := ⟨gT_t 1032 (by decide +kernel) (by decide +kernel), gT_t 11 (by decide +kernel) (by decide +kernel)⟩
theorem cd_124 : cdM 124 := ⟨gT_t 1036 (by decide +kernel) (by decide +kernel), gT_t 1 (by decide +kernel) (by decide +kernel)⟩
theorem cd_125 : cdM 125 := ⟨gT_t 1040 (by decide +kernel) (by decide +kernel), gT_t 11 (by decide +kernel) (by decide +kernel)⟩
theorem cd_126 : cdM 126 := ⟨gT_t 1045 (by decide +kernel) (by decide +kernel), gT_t 1 (by decide +kernel) (by decide +kernel)⟩
theorem cd_127 : cdM 127 := ⟨gT_t 1050 (by decide +kernel) (by decide +kernel), gT_t 1 (by decide +kernel) (by decide +kernel)⟩
theorem cd_128 : cdM 128 := ⟨gT_t 1054 (by decide +kernel) (by decide +kernel), gT_t 1 (by decide +kernel) (by decide +kernel)⟩
theorem cd_129 : cdM 129 := ⟨gT_t 1058 (by decide +kernel) (by decide +kernel), gT_t 1 (by decide +kernel) (by decide +kernel)⟩
theorem cd_130 : cdM 130 := ⟨gT_t 1062 (by decide +kernel) (by decide +kernel), gT_t 12 (by decide +kernel) (by decide +kernel)⟩
theorem cd_131 : cdM 131 := ⟨gT_t 1066 (by decide +kernel) (by decide +kernel), gT_t 12 (by decide +kernel) (by decide +kernel)⟩
theorem cd_132 : cdM 132 := ⟨gT_t 1069 (by decide +kernel) (by decide +kernel), gT_t 12 (by decide +kernel) (by decide +kernel)⟩
theorem cd_133 : cdM 133 := ⟨gT_t 1073 (by decide +kernel) (by decide +kernel), gT_t 1 (by decide +kernel) (by decide +kernel)⟩
theorem cd_134 : cdM 134 := ⟨gT_t 1077 (by decide +kernel) (by decide +kernel), gT_t 12 (by decide +kernel) (by decide +kernel)⟩
theorem cd_135 : cdM 135 := ⟨gT_t 1081 (by decide +kernel) (by decide +kernel), gT_t 12 (by decide +kernel) (by decide +kernel)⟩
theorem cd_136 : cdM 136 := ⟨gT_t 1087 (by decide +kernel) (by decide +kernel), gT_t 12 (by decide +kernel) (by decide +kernel)⟩
theorem cd_137 : cdM 137 := ⟨gT_t 1090 (by decide +kernel) (by decide +kernel), gT_t 12 (by decide +kernel) (by decide +kernel)⟩
theorem cd_138 : cdM 138 := ⟨gT_t 1094 (by decide +kernel) (by decide +kernel), gT_t 12 (by decide +kernel) (by decide +kernel)⟩
theorem cd_139 : cdM 139 := ⟨gT_t 1097 (by decide +kernel) (by decide +kernel), gT_t 12 (by decide +kernel) (by decide +kernel)⟩
theorem cd_140 : cdM 140 := ⟨gT_t 1105 (by decide +kernel) (by decide +kernel), gT_t 1 (by decide +kernel) (by decide +kernel)⟩
theorem cd_141 : cdM 141 := ⟨gT_t 1109 (by decide +kernel) (by decide +kernel), gT_t 1 (by decide +kernel) (by decide +kernel)⟩
theorem cd_142 : cdM 142 := ⟨gT_t 1113 (by decide +kernel) (by decide +kernel), gT_t 1 (by decide +kernel) (by decide +kernel)⟩
theorem cd_143 : cdM 143 := ⟨gT_t 1117 (by decide +kernel) (by decide +kernel), gT_t 8 (by decide +kernel) (by decide +kernel)⟩
theorem cd_144 : cdM 144 := ⟨gT_t 1121 (by decide +kernel) (by decide +kernel), gT_t 7 (by decide +kernel) (by decide +kernel)⟩
theorem cd_145 : cdM 145 := ⟨gT_t 1125 (by decide +kernel) (by decide +kernel), gT_t 1 (by decide +kernel) (by decide +kernel)⟩
theorem cd_146 : cdM 146 := ⟨gT_t 1129 (by decide +kernel) (by decide +kernel), gT_t 1 (by decide +kernel) (by decide +kernel)⟩
theorem cd_147 : cdM 147 := ⟨gT_t 1134 (by decide +kernel) (by decide +kernel), gT_t 1 (by decide +kernel) (by decide +kernel)⟩
theorem cd_148 : cdM 148 := ⟨gT_t 1138 (by decide +kernel) (by decide +kernel), gT_t 1 (by decide +kernel) (by decide +kernel)⟩
theorem cd_149 : cdM 149 := ⟨gT_t 1142 (by decide +kernel) (by decide +kernel), gT_t 1 (by decide +kernel) (by decide +kernel)⟩
theorem cd_150 : cdM 150 := ⟨gT_t 1146 (by decide +kernel) (by decide +kernel), gT_t 1 (by decide +kernel) (by decide +kernel)⟩
theorem cd_151 : cdM 151 := ⟨gT_t 1150 (by decide +kernel) (by decide +kernel), gT_t 7 (by decide +kernel) (by decide +kernel)⟩
theorem cd_152 : cdM 152 := ⟨gT_t 1154 (by decide +kernel) (by decide +kernel), gT_t 1 (by decide +kernel) (by decide +kernel)⟩
theorem cd_153 : cdM 153 := ⟨gT_t 1161 (by decide +kernel) (by decide +kernel), gT_t 1 (by decide +kernel) (by decide +kernel)⟩
theorem cd_154 : cdM 154 := ⟨gT_t 1167 (by decide +kernel) (by decide +kernel), gT_t 1 (by decide +kernel) (by decide +kernel)⟩
theorem cd_155 : cdM 155 := ⟨gT_t 1171 (by decide +kernel) (by decide +kernel), gT_t 8 (by decide +kernel) (by decide +kernel)⟩
theorem cd_156 : cdM 156 := ⟨gT_t 1175 (by decide +kernel) (by decide +kernel), gT_t 1 (by decide +kernel) (by decide +kernel)⟩
theorem cd_157 : cdM 157 := ⟨gT_t 1179 (by decide +kernel) (by decide +kernel), gT_t 25 (by decide +kernel) (by decide +kernel)⟩
theorem cd_158 : cdM 158 := ⟨gT_t 1186 (by decide +kernel) (by decide +kernel), gT_t 1 (by decide +kernel) (by decide +kernel)⟩
theorem cd_159 : cdM 159 := ⟨gT_t 1190 (by decide +kernel) (by decide +kernel), gT_t 1 (by decide +kernel) (by decide +kernel)⟩
theorem cd_160 : cdM 160 := ⟨gT_t 1194 (by decide +kernel) (by decide +kernel), gT_t 1 (by decide +kernel) (by decide +kernel)⟩
theorem cd_161 : cdM 161 := ⟨gT_t 1203 (by decide +kernel) (by decide +kernel), gT_t 1 (by decide +kernel) (by decide +kernel)⟩
theorem cd_162 : cdM 162 := ⟨gT_t 1291 (by decide +kernel) (by decide +kernel), gT_t 13 (by decide +kernel) (by decide +kernel)⟩
theorem cd_163 : cdM 163 := ⟨gT_t 1314 (by decide +kernel) (by decide +kernel), gT_t 13 (by decide +kernel) (by decide +kernel)⟩
theorem cd_164 : cdM 164 := ⟨gT_t 1475 (by decide +kernel) (by decide +kernel), gT_t 13 (by decide +kernel) (by decide +kernel)⟩
theorem cd_165 : cdM 165 := ⟨gT_t 1479 (by decide +kernel) (by decide +kernel), gT_t 13 (by decide +kernel) (by decide +kernel)⟩
theorem cd_166 : cdM 166 := ⟨gT_t 1483 (by decide +kernel) (by decide +kernel), gT_t 13 (by decide +kernel) (by decide +kernel)⟩
theorem cd_167 : cdM 167 := ⟨gT_t 1487 (by decide +kernel) (by decide +kernel), gT_t 13 (by decide +kernel) (by decide +kernel)⟩
theorem cd_168 : cdM 168 := ⟨gT_t 1491 (by decide +kernel) (by decide +kernel), gT_t 13 (by decide +kernel) (by decide +kernel)⟩
theorem cd_169 : cdM 169 := ⟨gT_t 1495 (by decide +kernel) (by decide +kernel), gT_t 13 (by decide +kernel) (by decide +kernel)⟩
theorem cd_170 : cdM 170 := ⟨gT_t 1499 (by decide +kernel) (by decide +kernel), gT_t 13 (by decide +kernel) (by decide +kernel)⟩
theorem cd_171 : cdM 171 := ⟨gT_t 1503 (by decide +kernel) (by decide +kernel), gT_t 13 (by decide +kernel) (by decide +kernel)⟩
theorem cd_172 : cdM 172 := ⟨gT_t 1506 (by decide +kernel) (by decide +kernel), gT_t 13 (by decide +kernel) (by decide +kernel)⟩
theorem cd_173 : cdM 173 := ⟨gT_t 1510 (by decide +kernel) (by decide +kernel), gT_t 13 (by decide +kernel) (by decide +kernel)⟩
theorem cd_174 : cdM 174 := ⟨gT_t 1514 (by decide +kernel) (by decide +kernel), gT_t 13 (by decide +kernel) (by decide +kernel)⟩
theorem cd_175 : cdM 175 := ⟨gT_t 1520 (by decide +kernel) (by decide +kernel), gT_t 13 (by decide +kernel) (by decide +kernel)⟩
theorem cd_176 : cdM 176 := ⟨gT_t 1525 (by decide +kernel) (by decide +kernel), gT_t 13 (by decide +kernel) (by decide +kernel)⟩
theorem cd_177 : cdM 177 := ⟨gT_t 1529 (by decide +kernel) (by decide +kernel), gT_t 13 (by decide +kernel) (by decide +kernel)⟩
theorem cd_178 : cdM 178 := ⟨gT_t 1533 (by decide +kernel) (by decide +kernel), gT_t 13 (by decide +kernel) (by decide +kernel)⟩
theorem cd_179 : cdM 179 := ⟨gT_t 1537 (by decide +kernel) (by decide +kernel), gT_t 13 (by decide +kernel) (by decide +kernel)⟩
theorem cd_180 : cdM 180 := ⟨gT_t 1541 (by decide +kernel) (by decide +kernel), gT_t 13 (by decide +kernel) (by decide +kernel)⟩
theorem cd_181 : cdM 181 := ⟨gT_t 1545 (by decide +kernel) (by decide +kernel), gT_t 13 (by decide +kernel) (by decide +kernel)⟩
theorem cd_182 : cdM 182 := ⟨gT_t 1549 (by decide +kernel) (by decide +kernel), gT_t 13 (by decide +kernel) (by decide +kernel)⟩
theorem cd_183 : cdM 183 := ⟨gT_t 1553 (by decide +kernel) (by decide +kernel), gT_t 13 (by decide +kernel) (by decide +kernel)⟩
theorem cd_184 : cdM 184 := ⟨gT_t 1557 (by decide +kernel) (by decide +kernel), gT_t 13 (by decide +kernel) (by decide +kernel)⟩
theorem cd_185 : cdM 185 := ⟨gT_t 1561 (by decide +kernel) (by decide +kernel), gT_t 13 (by decide +kernel) (by decide +kernel)⟩
theorem cd_186 : cdM 186 := ⟨gT_t 1565 (by decide +kernel) (by decide +kernel), gT_t 13 (by decide +kernel) (by decide +kernel)⟩
theorem cd_187 : cdM 187 := ⟨gT_t 1569 (by decide +kernel) (by decide +kernel), gT_t 13 (by decide +kernel) (by decide +kernel)⟩
theorem cd_188 : cdM 188 := ⟨gT_t 1573 (by decide +kernel) (by decide +kernel), gT_t 13 (by decide +kernel) (by decide +kernel)⟩
theorem cd_189 : cdM 189 := ⟨gT_t 1577 (by decide +kernel) (by decide +kernel), gT_t 13 (by decide +kernel) (by decide +kernel)⟩
theorem cd_190 : cdM 190 := ⟨gT_t 1581 (by decide +kernel) (by decide +kernel), gT_t 13 (by decide +kernel) (by decide +kernel)⟩
theorem cd_191 : cdM 191 := ⟨gT_t 1585 (by decide +kernel) (by decide +kernel), gT_t 13 (by decide +kernel) (by decide +kernel)⟩
theorem cd_192 : cdM 192 := ⟨gT_t 1589 (by decide +kernel) (by decide +kernel), gT_t 13 (by decide +kernel) (by decide +kernel)⟩
theorem cd_193 : cdM 193 := ⟨gT_t 1593 (by decide +kernel) (by decide +kernel), gT_t 13 (by decide +kernel) (by decide +kernel)⟩
theorem cd_194 : cdM 194 := ⟨gT_t 1597 (by decide +kernel) (by decide +kernel), gT_t 13 (by decide +kernel) (by decide +kernel)⟩
theorem cd_195 : cdM 195 := ⟨gT_t 1601 (by decide +kernel) (by decide +kernel), gT_t 13 (by decide +kernel) (by decide +kernel)⟩
theorem cd_196 : cdM 196 := ⟨gT_t 1605 (by decide +kernel) (by decide +kernel), gT_t 13 (by decide +kernel) (by decide +kernel)⟩
theorem cd_197 : cdM 197 := ⟨gT_t 1609 (by decide +kernel) (by decide +kernel), gT_t 13 (by decide +kernel) (by decide +kernel)⟩
theorem cd_198 : cdM 198 := ⟨gT_t 1612 (by decide +kernel) (by decide +kernel), gT_t 13 (by decide +kernel) (by decide +kernel)⟩
theorem cd_199 : cdM 199 := ⟨gT_t 1616 (by decide +kernel) (by decide +kernel), gT_t 13 (by decide +kernel) (by decide +kernel)⟩
theorem cd_200 : cdM 200 := ⟨gT_t 1620 (by decide +kernel) (by decide +kernel), gT_t 13 (by decide +kernel) (by decide +kernel)⟩
theorem cd_201 : cdM 201 := ⟨gT_t 1624 (by decide +kernel) (by decide +kernel), gT_t 13 (by decide +kernel) (by decide +kernel)⟩
theorem cd_202 : cdM 202 := ⟨gT_t 1628 (by decide +kernel) (by decide +kernel), gT_t 13 (by decide +kernel) (by decide +kernel)⟩
theorem cd_203 : cdM 203 := ⟨gT_t 1632 (by decide +kernel) (by decide +kernel), gT_t 13 (by decide +kernel) (by decide +kernel)⟩
theorem cd_204 : cdM 204 := ⟨gT_t 1636 (by decide +kernel) (by decide +kernel), gT_t 13 (by decide +kernel) (by decide +kernel)⟩
theorem cd_205 : cdM 205 := ⟨gT_t 1640 (by decide +kernel) (by decide +kernel), gT_t 13 (by decide +kernel) (by decide +kernel)⟩
theorem cd_206 : cdM 206 := ⟨gT_t 1644 (by decide +kernel) (by decide +kernel), gT_t 13 (by decide +kernel) (by decide +kernel)⟩
theorem cd_207 : cdM 207 := ⟨gT_t 1648 (by decide +kernel) (by decide +kernel), gT_t 13 (by decide +kernel) (by decide +kernel)⟩
theorem cd_208 : cdM 208 := ⟨gT_t 1652 (by decide +kernel) (by decide +kernel), gT_t 13 (by decide +kernel) (by decide +kernel)⟩
theorem cd_209 : cdM 209 := ⟨gT_t 1656 (by decide +kernel) (by decide +kernel), gT_t 13 (by decide +kernel) (by decide +kernel)⟩
theorem cd_210 : cdM 210 := ⟨gT_t 1660 (by decide +kernel) (by decide +kernel), gT_t 13 (by decide +kernel) (by decide +kernel)⟩
theorem cd_211 : cdM 211 := ⟨gT_t 1664 (by decide +kernel) (by decide +kernel), gT_t 13 (by decide +kernel) (by decide +kernel)⟩
theorem cd_212 : cdM 212 := ⟨gT_t 1668 (by decide +kernel) (by decide +kernel), gT_t 13 (by decide +kernel) (by decide +kernel)⟩
theorem cd_213 : cdM 213 := ⟨gT_t 1673 (by decide +kernel) (by decide +kernel), gT_t 13 (by decide +kernel) (by decide +kernel)⟩
theorem cd_214 : cdM 214 := ⟨gT_t 1677 (by decide +kernel) (by decide +kernel), gT_t 13 (by decide +kernel) (by decide +kernel)⟩
theorem cd_215 : cdM 215 := ⟨gT_t 1681 (by decide +kernel) (by decide +kernel), gT_t 13 (by decide +kernel) (by decide +kernel)⟩
theorem cd_216 : cdM 216 := ⟨gT_t 1685 (by decide +kernel) (by decide +kernel), gT_t 13 (by decide +kernel) (by decide +kernel)⟩
theorem cd_217 : cdM 217 := ⟨gT_t 1688 (by decide +kernel) (by decide +kernel), gT_t 13 (by decide +kernel) (by decide +kernel)⟩
theorem cd_218 : cdM 218 := ⟨gT_t 1691 (by decide +kernel) (by decide +kernel), gT_t 13 (by decide +kernel) (by decide +kernel)⟩
theorem cd_219 : cdM 219 := ⟨gT_t 1694 (by decide +kernel) (by decide +kernel), gT_t 13 (by decide +kernel) (by decide +kernel)⟩
theorem cd_220 : cdM 220 := ⟨gT_t 1698 (by decide +kernel) (by decide +kernel), gT_t 13 (by decide +kernel) (by decide +kernel)⟩
theorem cd_221 : cdM 221 := ⟨gT_t 1703 (by decide +kernel) (by decide +kernel), gT_t 13 (by decide +kernel) (by decide +kernel)⟩
theorem cd_222 : cdM 222 := ⟨gT_t 1707 (by decide +kernel) (by decide +kernel), gT_t 13 (by decide +kernel) (by decide +kernel)⟩
theorem cd_223 : cdM 223 := ⟨gT_t 1711 (by decide +kernel) (by decide +kernel), gT_t 13 (by decide +kernel) (by decide +kernel)⟩
theorem cd_224 : cdM 224 := ⟨gT_t 1715 (by decide +kernel) (by decide +kernel), gT_t 13 (by decide +kernel) (by decide +kernel)⟩
theorem cd_225 : cdM 225 := ⟨gT_t 1719 (by decide +kernel) (by decide +kernel), gT_t 13 (by decide +kernel) (by decide +kernel)⟩
theorem cd_226 : cdM 226 := ⟨gT_t 1723 (by decide +kernel) (by decide +kernel), gT_t 13 (by decide +kernel) (by decide +kernel)⟩
theorem cd_227 : cdM 227 := ⟨gT_t 1727 (by decide +kernel) (by decide +kernel), gT_t 13 (by decide +kernel) (by decide +kernel)⟩
theorem cd_228 : cdM 228 := ⟨gT_t 1731 (by decide +kernel) (by decide +kernel), gT_t 13 (by decide +kernel) (by decide +kernel)⟩
theorem cd_229 : cdM 229 := ⟨gT_t 1735 (by decide +kernel) (by decide +kernel), gT_t 13 (by decide +kernel) (by decide +kernel)⟩
theorem cd_230 : cdM 230 := ⟨gT_t 1739 (by decide +kernel) (by decide +kernel), gT_t 13 (by decide +kernel) (by decide +kernel)⟩
theorem cd_231 : cdM 231 := ⟨gT_t 1743 (by decide +kernel) (by decide +kernel), gT_t 13 (by decide +kernel) (by decide +kernel)⟩
theorem cd_232 : cdM 232 := ⟨gT_t 1747 (by decide +kernel) (by decide +kernel), gT_t 13 (by decide +kernel) (by decide +kernel)⟩
theorem cd_233 : cdM 233 := ⟨gT_t 1751 (by decide +kernel) (by decide +kernel), gT_t 13 (by decide +kernel) (by decide +kernel)⟩
theorem cd_234 : cdM 234 := ⟨gT_t 1755 (by decide +kernel) (by decide +kernel), gT_t 13 (by decide +kernel) (by decide +kernel)⟩
theorem cd_235 : cdM 235 := ⟨gT_t 1759 (by decide +kernel) (by decide +kernel), gT_t 13 (by decide +kernel) (by decide +kernel)⟩
theorem cd_236 : cdM 236 := ⟨gT_t 1763 (by decide +kernel) (by decide +kernel), gT_t 13 (by decide +kernel) (by decide +kernel)⟩
theorem cd_237 : cdM 237 := ⟨gT_t 1767 (by decide +kernel) (by decide +kernel), gT_t 13 (by decide +kernel) (by decide +kernel)⟩
theorem cd_238 : cdM 238 := ⟨gT_t 1771 (by decide +kernel) (by decide +kernel), gT_t 13 (by decide +kernel) (by decide +kernel)⟩
theorem cd_239 : cdM 239 := ⟨gT_t 1775 (by decide +kernel) (by decide +kernel), gT_t 13 (by decide +kernel) (by decide +kernel)⟩
theorem cd_240 : cdM 240 := ⟨gT_t 1779 (by decide +kernel) (by decide +kernel), gT_t 13 (by decide +kernel) (by decide +kernel)⟩
theorem cd_241 : cdM 241 := ⟨gT_t 1783 (by decide +kernel) (by decide +kernel), gT_t 13 (by decide +kernel) (by decide +kernel)⟩
theorem cd_242 : cdM 242 := ⟨gT_t 1787 (by decide +kernel) (by decide +kernel), gT_t 13 (by decide +kernel) (by decide +kernel)⟩
theorem cd_243 : cdM 243 := ⟨gT_t 1791 (by decide +kernel) (by decide +kernel), gT_t 13 (by decide +kernel) (by decide +kernel)⟩
theorem cd_244 : cdM 244 := ⟨gT_t 1795 (by decide +kernel) (by decide +kernel), gT_t 13 (by decide +kernel) (by decide +kernel)⟩
theorem cd_245 : cdM 245 := ⟨gT_t 1799 (by decide +kernel) (by decide +kernel), gT_t 13 (by decide +kernel) (by decide +kernel)⟩
theorem cd_246 : cdM 246 := ⟨gT_t 1803 (by decide +kernel) (by decide +kernel), gT_t 13 (by decide +kernel) (by decide +kernel)⟩
theorem cd_247 : cdM 247 := ⟨gT_t 1807 (by decide +kernel) (by decide +kernel), gT_t 13 (by decide +kernel) (by decide +kernel)⟩
theorem cd_248 : cdM 248 := ⟨gT_t 1811 (by decide +kernel) (by decide +kernel), gT_t 13 (by decide +kernel) (by decide +kernel)⟩
theorem cd_249 : cdM 249 := ⟨gT_t 1815 (by decide +kernel) (by decide +kernel), gT_t 13 (by decide +kernel) (by decide +kernel)⟩
theorem cd_250 : cdM 250 := ⟨gT_t 1819 (by decide +kernel) (by decide +kernel), gT_t 13 (by decide +kernel) (by decide +kernel)⟩
theorem cd_251 : cdM 251 := ⟨gT_t 1823 (by decide +kernel) (by decide +kernel), gT_t 13 (by decide +kernel) (by decide +kernel)⟩
theorem cd_252 : cdM 252 := ⟨gT_t 1827 (by decide +kernel) (by decide +kernel), gT_t 13 (by decide +kernel) (by decide +kernel)⟩
theorem cd_253 : cdM 253 := ⟨gT_t 1831 (by decide +kernel) (by decide +kernel), gT_t 13 (by decide +kernel) (by decide +kernel)⟩
theorem cd_254 : cdM 254 := ⟨gT_t 1835 (by decide +kernel) (by decide +kernel), gT_t 13 (by decide +kernel) (by decide +kernel)⟩
theorem cd_255 : cdM 255 := ⟨gT_t 1839 (by decide +kernel) (by decide +kernel), gT_t 13 (by decide +kernel) (by decide +kernel)⟩
theorem cd_256 : cdM 256 := ⟨gT_t 1843 (by decide +kernel) (by decide +kernel), gT_t 13 (by decide +kernel) (by decide +kernel)⟩
theorem cd_257 : cdM 257 := ⟨gT_t 1847 (by decide +kernel) (by decide +kernel), gT_t 13 (by decide +kernel) (by decide +kernel)⟩
theorem cd_258 : cdM 258 := ⟨gT_t 1851 (by decide +kernel) (by decide +kernel), gT_t 13 (by decide +kernel) (by decide +kernel)⟩
theorem cd_259 : cdM 259 := ⟨gT_t 1855 (by decide +kernel) (by decide +kernel), gT_t 13 (by decide +kernel) (by decide +kernel)⟩
theorem cd_260 : cdM 260 := ⟨gT_t 1859 (by decide +kernel) (by decide +kernel), gT_t 13 (by decide +kernel) (by decide +kernel)⟩
theorem cd_261 : cdM 261 := ⟨gT_t 1863 (by decide +kernel) (by decide +kernel), gT_t 13 (by decide +kernel) (by decide +kernel)⟩
theorem cd_262 : cdM 262 := ⟨gT_t 1867 (by decide +kernel) (by decide +kernel), gT_t 13 (by decide +kernel) (by decide +kernel)⟩
theorem cd_263 : cdM 263 := ⟨gT_t 1871 (by decide +kernel) (by decide +kernel), gT_t 13 (by decide +kernel) (by decide +kernel)⟩
theorem cd_264 : cdM 264 := ⟨gT_t 1875 (by decide +kernel) (by decide +kernel), gT_t 13 (by decide +kernel) (by decide +kernel)⟩
theorem cd_265 : cdM 265 := ⟨gT_t 1879 (by decide +kernel) (by decide +kernel), gT_t 13 (by decide +kernel) (by decide +kernel)⟩
theorem cd_266 : cdM 266 := ⟨gT_t 1882 (by decide +kernel) (by decide +kernel), gT_t 13 (by decide +kernel) (by decide +kernel)⟩
theorem cd_267 : cdM 267 := ⟨gT_t 1886 (by decide +kernel) (by decide +kernel), gT_t 13 (by decide +kernel) (by decide +kernel)⟩
theorem cd_268 : cdM 268 := ⟨gT_t 1890 (by decide +kernel) (by decide +kernel), gT_t 13 (by decide +kernel) (by decide +kernel)⟩
theorem cd_269 : cdM 269 := ⟨gT_t 1894 (by decide +kernel) (by decide +kernel), gT_t 13 (by decide +kernel) (by decide +kernel)⟩
theorem cd_270 : cdM 270 := ⟨gT_t 1898 (by decide +kernel) (by decide +kernel), gT_t 13 (by decide +kernel) (by decide +kernel)⟩
theorem cd_271 : cdM 271 := ⟨gT_t 1902 (by decide +kernel) (by decide +kernel), gT_t 13 (by decide +kernel) (by decide +kernel)⟩
theorem cd_272 : cdM 272 := ⟨gT_t 1906 (by decide +kernel) (by decide +kernel), gT_t 13 (by decide +kernel) (by decide +kernel)⟩
theorem cd_273 : cdM 273 := ⟨gT_t 1910 (by decide +kernel) (by decide +kernel), gT_t 13 (by decide +kernel) (by decide +kernel)⟩
theorem cd_274 : cdM 274 := ⟨gT_t 1914 (by decide +kernel) (by decide +kernel), gT_t 13 (by decide +kernel) (by decide +kernel)⟩
theorem cd_275 : cdM 275 := ⟨gT_t 1918 (by decide +kernel) (by decide +kernel), gT_t 13 (by decide +kernel) (by decide +kernel)⟩
theorem cd_276 : cdM 276 := ⟨gT_t 1922 (by decide +kernel) (by decide +kernel), gT_t 13 (by decide +kernel) (by decide +kernel)⟩
theorem cd_277 : cdM 277 := ⟨gT_t 1926 (by decide +kernel) (by decide +kernel), gT_t 13 (by decide +kernel) (by decide +kernel)⟩
theorem cd_278 : cdM 278 := ⟨gT_t 1930 (by decide +kernel) (by decide +kernel), gT_t 13 (by decide +kernel) (by decide +kernel)⟩
theorem cd_279 : cdM 279 := ⟨gT_t 1934 (by decide +kernel) (by decide +kernel), gT_t 13 (by decide +kernel) (by decide +kernel)⟩
theorem cd_280 : cdM 280 := ⟨gT_t 1938 (by decide +kernel) (by decide +kernel), gT_t 13 (by decide +kernel) (by decide +kernel)⟩
theorem cd_281 : cdM 281 := ⟨gT_t 1942 (by decide +kernel) (by decide +kernel), gT_t 13 (by decide +kernel) (by decide +kernel)⟩
theorem cd_282 : cdM 282 := ⟨gT_t 1946 (by decide +kernel) (by decide +kernel), gT_t 13 (by decide +kernel) (by decide +kernel)⟩
theorem cd_283 : cdM 283 := ⟨gT_t 1954 (by decide +kernel) (by decide +kernel), gT_t 13 (by decide +kernel) (by decide +kernel)⟩
theorem cd_284 : cdM 284 := ⟨gT_t 1958 (by decide +kernel) (by decide +kernel), gT_t 13 (by decide +kernel) (by decide +kernel)⟩
theorem cd_all_0 : ∀ M ∈ ([0, 1, 2, 3, 4, 5, 6, 7, 8, 9, 10, 11, 12, 13, 14, 15, 16, 17, 18, 19] : List Nat), cdM M := List.forall_mem_cons.mpr ⟨cd_0, List.forall_mem_cons.mpr ⟨cd_1, List.forall_mem_cons.mpr ⟨cd_2, List.forall_mem_cons.mpr ⟨cd_3, List.forall_mem_cons.mpr ⟨cd_4, List.forall_mem_cons.mpr ⟨cd_5, List.forall_mem_cons.mpr ⟨cd_6, List.forall_mem_cons.mpr ⟨cd_7, List.forall_mem_cons.mpr ⟨cd_8, List.forall_mem_cons.mpr ⟨cd_9, List.forall_mem_cons.mpr ⟨cd_10, List.forall_mem_cons.mpr ⟨cd_11, List.forall_mem_cons.mpr ⟨cd_12, List.forall_mem_cons.mpr ⟨cd_13, List.forall_mem_cons.mpr ⟨cd_14, List.forall_mem_cons.mpr ⟨cd_15, List.forall_mem_cons.mpr ⟨cd_16, List.forall_mem_cons.mpr ⟨cd_17, List.forall_mem_cons.mpr ⟨cd_18, List.forall_mem_cons.mpr ⟨cd_19, fun _ h => absurd h List.not_mem_nil⟩⟩⟩⟩⟩⟩⟩⟩⟩⟩⟩⟩⟩⟩⟩⟩⟩⟩⟩⟩
theorem cd_all_1 : ∀ M ∈ ([20, 21, 22, 23, 24, 25, 26, 27, 28, 29, 30, 31, 32, 33, 34, 35, 36, 37, 38, 39] : List Nat), cdM M := List.forall_mem_cons.mpr ⟨cd_20, List.forall_mem_cons.mpr ⟨cd_21, List.forall_mem_cons.mpr ⟨cd_22, List.forall_mem_cons.mpr ⟨cd_23, List.forall_mem_cons.mpr ⟨cd_24, List.forall_mem_cons.mpr ⟨cd_25, List.forall_mem_cons.mpr ⟨cd_26, List.forall_mem_cons.mpr ⟨cd_27, List.forall_mem_cons.mpr ⟨cd_28, List.forall_mem_cons.mpr ⟨cd_29, List.forall_mem_cons.mpr ⟨cd_30, List.forall_mem_cons.mpr ⟨cd_31, List.forall_mem_cons.mpr ⟨cd_32, List.forall_mem_cons.mpr ⟨cd_33, List.forall_mem_cons.mpr ⟨cd_34, List.forall_mem_cons.mpr ⟨cd_35, List.forall_mem_cons.mpr ⟨cd_36, List.forall_mem_cons.mpr ⟨cd_37, List.forall_mem_cons.mpr ⟨cd_38, List.forall_mem_cons.mpr ⟨cd_39, fun _ h => absurd h List.not_mem_nil⟩⟩⟩⟩⟩⟩⟩⟩⟩⟩⟩⟩⟩⟩⟩⟩⟩⟩⟩⟩
theorem cd_all_2 : ∀ M ∈ ([40, 41, 42, 43, 44, 45, 46, 47, 48, 49, 50, 51, 52, 53, 54, 55, 56, 57, 58, 59] : List Nat), cdM M := List.forall_mem_cons.mpr ⟨cd_40, List.forall_mem_cons.mpr ⟨cd_41, List.forall_mem_cons.mpr ⟨cd_42, List.forall_mem_cons.mpr ⟨cd_43, List.forall_mem_cons.mpr ⟨cd_44, List.forall_mem_cons.mpr ⟨cd_45, List.forall_mem_cons.mpr ⟨cd_46, List.forall_mem_cons.mpr ⟨cd_47, List.forall_mem_cons.mpr ⟨cd_48, List.forall_mem_cons.mpr ⟨cd_49, List.forall_mem_cons.mpr ⟨cd_50, List.forall_mem_cons.mpr ⟨cd_51, List.forall_mem_cons.mpr ⟨cd_52, List.forall_mem_cons.mpr ⟨cd_53, List.forall_mem_cons.mpr ⟨cd_54, List.forall_mem_cons.mpr ⟨cd_55, List.forall_mem_cons.mpr ⟨cd_56, List.forall_mem_cons.mpr ⟨cd_57, List.forall_mem_cons.mpr ⟨cd_58, List.forall_mem_cons.mpr ⟨cd_59, fun _ h => absurd h List.not_mem_nil⟩⟩⟩⟩⟩⟩⟩⟩⟩⟩⟩⟩⟩⟩⟩⟩⟩⟩⟩⟩
theorem cd_all_3 : ∀ M ∈ ([60, 61, 62, 63, 64, 65, 66, 67, 68, 69, 70, 71, 72, 73, 74, 75, 76, 77, 78, 79] : List Nat), cdM M := List.forall_mem_cons.mpr ⟨cd_60, List.forall_mem_cons.mpr ⟨cd_61, List.forall_mem_cons.mpr ⟨cd_62, List.forall_mem_cons.mpr ⟨cd_63, List.forall_mem_cons.mpr ⟨cd_64, List.forall_mem_cons.mpr ⟨cd_65, List.forall_mem_cons.mpr ⟨cd_66, List.forall_mem_cons.mpr ⟨cd_67, List.forall_mem_cons.mpr ⟨cd_68, List.forall_mem_cons.mpr ⟨cd_69, List.forall_mem_cons.mpr ⟨cd_70, List.forall_mem_cons.mpr ⟨cd_71, List.forall_mem_cons.mpr ⟨cd_72, List.forall_mem_cons.mpr ⟨cd_73, List.forall_mem_cons.mpr ⟨cd_74, List.forall_mem_cons.mpr ⟨cd_75, List.forall_mem_cons.mpr ⟨cd_76, List.forall_mem_cons.mpr ⟨cd_77, List.forall_mem_cons.mpr ⟨cd_78, List.forall_mem_cons.mpr ⟨cd_79, fun _ h => absurd h List.not_mem_nil⟩⟩⟩⟩⟩⟩⟩⟩⟩⟩⟩⟩⟩⟩⟩⟩⟩⟩⟩⟩
theorem cd_all_4 : ∀ M ∈ ([80, 81, 82, 83, 84, 85, 86, 87, 88, 89, 90, 91, 92, 93, 94, 95, 96, 97, 98, 99] : List Nat), cdM M := List.forall_mem_cons.mpr ⟨cd_80, List.forall_mem_cons.mpr ⟨cd_81, List.forall_mem_cons.mpr ⟨cd_82, List.forall_mem_cons.mpr ⟨cd_83, List.forall_mem_cons.mpr ⟨cd_84, List.forall_mem_cons.mpr ⟨cd_85, List.forall_mem_cons.mpr ⟨cd_86, List.forall_mem_cons.mpr ⟨cd_87, List.forall_mem_cons.mpr ⟨cd_88, List.forall_mem_cons.mpr ⟨cd_89, List.forall_mem_cons.mpr ⟨cd_90, List.forall_mem_cons.mpr ⟨cd_91, List.forall_mem_cons.mpr ⟨cd_92, List.forall_mem_cons.mpr ⟨cd_93, List.forall_mem_cons.mpr ⟨cd_94, List.forall_mem_cons.mpr ⟨cd_95, List.forall_mem_cons.mpr ⟨cd_96, List.forall_mem_cons.mpr ⟨cd_97, List.forall_mem_cons.mpr ⟨cd_98, List.forall_mem_cons.mpr ⟨cd_99, fun _ h => absurd h List.not_mem_nil⟩⟩⟩⟩⟩⟩⟩⟩⟩⟩⟩⟩⟩⟩⟩⟩⟩⟩⟩⟩
theorem cd_all_5 : ∀ M ∈ ([100, 101, 102, 103, 104, 105, 106, 107, 108, 109, 110, 111, 112, 113, 114, 115, 116, 117, 118, 119] : List Nat), cdM M := List.forall_mem_cons.mpr ⟨cd_100, List.forall_mem_cons.mpr ⟨cd_101, List.forall_mem_cons.mpr ⟨cd_102, List.forall_mem_cons.mpr ⟨cd_103, List.forall_mem_cons.mpr ⟨cd_104, List.forall_mem_cons.mpr ⟨cd_105, List.forall_mem_cons.mpr ⟨cd_106, List.forall_mem_cons.mpr ⟨cd_107, List.forall_mem_cons.mpr ⟨cd_108, List.forall_mem_cons.mpr ⟨cd_109, List.forall_mem_cons.mpr ⟨cd_110, List.forall_mem_cons.mpr ⟨cd_111, List.forall_mem_cons.mpr ⟨cd_112, List.forall_mem_cons.mpr ⟨cd_113, List.forall_mem_cons.mpr ⟨cd_114, List.forall_mem_cons.mpr ⟨cd_115, List.forall_mem_cons.mpr ⟨cd_116, List.forall_mem_cons.mpr ⟨cd_117, List.forall_mem_cons.mpr ⟨cd_118, List.forall_mem_cons.mpr ⟨cd_119, fun _ h => absurd h List.not_mem_nil⟩⟩⟩⟩⟩⟩⟩⟩⟩⟩⟩⟩⟩⟩⟩⟩⟩⟩⟩⟩
theorem cd_all_6 : ∀ M ∈ ([120, 121, 122, 123, 124, 125, 126, 127, 128, 129, 130, 131, 132, 133, 134, 135, 136, 137, 138, 139] : List Nat), cdM M := List.forall_mem_cons.mpr ⟨cd_120, List.forall_mem_cons.mpr ⟨cd_121, List.forall_mem_cons.mpr ⟨cd_122, List.forall_mem_cons.mpr ⟨cd_123, List.forall_mem_cons.mpr ⟨cd_124, List.forall_mem_cons.mpr ⟨cd_125, List.forall_mem_cons.mpr ⟨cd_126, List.forall_mem_cons.mpr ⟨cd_127, List.forall_mem_cons.mpr ⟨cd_128, List.forall_mem_cons.mpr ⟨cd_129, List.forall_mem_cons.mpr ⟨cd_130, List.forall_mem_cons.mpr ⟨cd_131, List.forall_mem_cons.mpr ⟨cd_132, List.forall_mem_cons.mpr ⟨cd_133, List.forall_mem_cons.mpr ⟨cd_134, List.forall_mem_cons.mpr ⟨cd_135, List.forall_mem_cons.mpr ⟨cd_136, List.forall_mem_cons.mpr ⟨cd_137, List.forall_mem_cons.mpr ⟨cd_138, List.forall_mem_cons.mpr ⟨cd_139, fun _ h => absurd h List.not_mem_nil⟩⟩⟩⟩⟩⟩⟩⟩⟩⟩⟩⟩⟩⟩⟩⟩⟩⟩⟩⟩
theorem cd_all_7 : ∀ M ∈ ([140, 141, 142, 143, 144, 145, 146, 147, 148, 149, 150, 151, 152, 153, 154, 155, 156, 157, 158, 159] : List Nat), cdM M := List.forall_mem_cons.mpr ⟨cd_140, List.forall_mem_cons.mpr ⟨cd_141, List.forall_mem_cons.mpr ⟨cd_142, List.forall_mem_cons.mpr ⟨cd_143, List.forall_mem_cons.mpr ⟨cd_144, List.forall_mem_cons.mpr ⟨cd_145, List.forall_mem_cons.mpr ⟨cd_146, List.forall_mem_cons.mpr ⟨cd_147, List.forall_mem_cons.mpr ⟨cd_148, List.forall_mem_cons.mpr ⟨cd_149, List.forall_mem_cons.mpr ⟨cd_150, List.forall_mem_cons.mpr ⟨cd_151, List.forall_mem_cons.mpr ⟨cd_152, List.forall_mem_cons.mpr ⟨cd_153, List.forall_mem_cons.mpr ⟨cd_154, List.forall_mem_cons.mpr ⟨cd_155, List.forall_mem_cons.mpr ⟨cd_156, List.forall_mem_cons.mpr ⟨cd_157, List.forall_mem_cons.mpr ⟨cd_158, List.forall_mem_cons.mpr ⟨cd_159, fun _ h => absurd h List.not_mem_nil⟩⟩⟩⟩⟩⟩⟩⟩⟩⟩⟩⟩⟩⟩⟩⟩⟩⟩⟩⟩
theorem cd_all_8 : ∀ M ∈ ([160, 161, 162, 163, 164, 165, 166, 167, 168, 169, 170, 171, 172, 173, 174, 175, 176, 177, 178, 179] : List Nat), cdM M := List.forall_mem_cons.mpr ⟨cd_160, List.forall_mem_cons.mpr ⟨cd_161, List.forall_mem_cons.mpr ⟨cd_162, List.forall_mem_cons.mpr ⟨cd_163, List.forall_mem_cons.mpr ⟨cd_164, List.forall_mem_cons.mpr ⟨cd_165, List.forall_mem_cons.mpr ⟨cd_166, List.forall_mem_cons.mpr ⟨cd_167, List.forall_mem_cons.mpr ⟨cd_168, List.forall_mem_cons.mpr ⟨cd_169, List.forall_mem_cons.mpr ⟨cd_170, List.forall_mem_cons.mpr ⟨cd_171, List.forall_mem_cons.mpr ⟨cd_172, List.forall_mem_cons.mpr ⟨cd_173, List.forall_mem_cons.mpr ⟨cd_174, List.forall_mem_cons.mpr ⟨cd_175, List.forall_mem_cons.mpr ⟨cd_176, List.forall_mem_cons.mpr ⟨cd_177, List.forall_mem_cons.mpr ⟨cd_178, List.forall_mem_cons.mpr ⟨cd_179, fun _ h => absurd h List.not_mem_nil⟩⟩⟩⟩⟩⟩⟩⟩⟩⟩⟩⟩⟩⟩⟩⟩⟩⟩⟩⟩
theorem cd_all_9 : ∀ M ∈ ([180, 181, 182, 183, 184, 185, 186, 187, 188, 189, 190, 191, 192, 193, 194, 195, 196, 197, 198, 199] : List Nat), cdM M := List.forall_mem_cons.mpr ⟨cd_180, List.forall_mem_cons.mpr ⟨cd_181, List.forall_mem_cons.mpr ⟨cd_182, List.forall_mem_cons.mpr ⟨cd_183, List.forall_mem_cons.mpr ⟨cd_184, List.forall_mem_cons.mpr ⟨cd_185, List.forall_mem_cons.mpr ⟨cd_186, List.forall_mem_cons.mpr ⟨cd_187, List.forall_mem_cons.mpr ⟨cd_188, List.forall_mem_cons.mpr ⟨cd_189, List.forall_mem_cons.mpr ⟨cd_190, List.forall_mem_cons.mpr ⟨cd_191, List.forall_mem_cons.mpr ⟨cd_192, List.forall_mem_cons.mpr ⟨cd_193, List.forall_mem_cons.mpr ⟨cd_194, List.forall_mem_cons.mpr ⟨cd_195, List.forall_mem_cons.mpr ⟨cd_196, List.forall_mem_cons.mpr ⟨cd_197, List.forall_mem_cons.mpr ⟨cd_198, List.forall_mem_cons.mpr ⟨cd_199, fun _ h => absurd h List.not_mem_nil⟩⟩⟩⟩⟩⟩⟩⟩⟩⟩⟩⟩⟩⟩⟩⟩⟩⟩⟩⟩
theorem cd_all_10 : ∀ M ∈ ([200, 201, 202, 203, 204, 205, 206, 207, 208, 209, 210, 211, 212, 213, 214, 215, 216, 217, 218, 219] : List Nat), cdM M := List.forall_mem_cons.mpr ⟨cd_200, List.forall_mem_cons.mpr ⟨cd_201, List.forall_mem_cons.mpr ⟨cd_202, List.forall_mem_cons.mpr ⟨cd_203, List.forall_mem_cons.mpr ⟨cd_204, List.forall_mem_cons.mpr ⟨cd_205, List.forall_mem_cons.mpr ⟨cd_206, List.forall_mem_cons.mpr ⟨cd_207, List.forall_mem_cons.mpr ⟨cd_208, List.forall_mem_cons.mpr ⟨cd_209, List.forall_mem_cons.mpr ⟨cd_210, List.forall_mem_cons.mpr ⟨cd_211, List.forall_mem_cons.mpr ⟨cd_212, List.forall_mem_cons.mpr ⟨cd_213, List.forall_mem_cons.mpr ⟨cd_214, List.forall_mem_cons.mpr ⟨cd_215, List.forall_mem_cons.mpr ⟨cd_216, List.forall_mem_cons.mpr ⟨cd_217, List.forall_mem_cons.mpr ⟨cd_218, List.forall_mem_cons.mpr ⟨cd_219, fun _ h => absurd h List.not_mem_nil⟩⟩⟩⟩⟩⟩⟩⟩⟩⟩⟩⟩⟩⟩⟩⟩⟩⟩⟩⟩
theorem cd_all_11 : ∀ M ∈ ([220, 221, 222, 223, 224, 225, 226, 227, 228, 229, 230, 231, 232, 233, 234, 235, 236, 237, 238, 239] : List Nat), cdM M := List.forall_mem_cons.mpr ⟨cd_220, List.forall_mem_cons.mpr ⟨cd_221, List.forall_mem_cons.mpr ⟨cd_222, List.forall_mem_cons.mpr ⟨cd_223, List.forall_mem_cons.mpr ⟨cd_224, List.forall_mem_cons.mpr ⟨cd_225, List.forall_mem_cons.mpr ⟨cd_226, List.forall_mem_cons.mpr ⟨cd_227, List.forall_mem_cons.mpr ⟨cd_228, List.forall_mem_cons.mpr ⟨cd_229, List.forall_mem_cons.mpr ⟨cd_230, List.forall_mem_cons.mpr ⟨cd_231, List.forall_mem_cons.mpr ⟨cd_232, List.forall_mem_cons.mpr ⟨cd_233, List.forall_mem_cons.mpr ⟨cd_234, List.forall_mem_cons.mpr ⟨cd_235, List.forall_mem_cons.mpr ⟨cd_236, List.forall_mem_cons.mpr ⟨cd_237, List.forall_mem_cons.mpr ⟨cd_238, List.forall_mem_cons.mpr ⟨cd_239, fun _ h => absurd h List.not_mem_nil⟩⟩⟩⟩⟩⟩⟩⟩⟩⟩⟩⟩⟩⟩⟩⟩⟩⟩⟩⟩
theorem cd_all_12 : ∀ M ∈ ([240, 241, 242, 243, 244, 245, 246, 247, 248, 249, 250, 251, 252, 253, 254, 255, 256, 257, 258, 259] : List Nat), cdM M := List.forall_mem_cons.mpr ⟨cd_240, List.forall_mem_cons.mpr ⟨cd_241, List.forall_mem_cons.mpr ⟨cd_242, List.forall_mem_cons.mpr ⟨cd_243, List.forall_mem_cons.mpr ⟨cd_244, List.forall_mem_cons.mpr ⟨cd_245, List.forall_mem_cons.mpr ⟨cd_246, List.forall_mem_cons.mpr ⟨cd_247, List.forall_mem_cons.mpr ⟨cd_248, List.forall_mem_cons.mpr ⟨cd_249, List.forall_mem_cons.mpr ⟨cd_250, List.forall_mem_cons.mpr ⟨cd_251, List.forall_mem_cons.mpr ⟨cd_252, List.forall_mem_cons.mpr ⟨cd_253, List.forall_mem_cons.mpr ⟨cd_254, List.forall_mem_cons.mpr ⟨cd_255, List.forall_mem_cons.mpr ⟨cd_256, List.forall_mem_cons.mpr ⟨cd_257, List.forall_mem_cons.mpr ⟨cd_258, List.forall_mem_cons.mpr ⟨cd_259, fun _ h => absurd h List.not_mem_nil⟩⟩⟩⟩⟩⟩⟩⟩⟩⟩⟩⟩⟩⟩⟩⟩⟩⟩⟩⟩
theorem cd_all_13 : ∀ M ∈ ([260, 261, 262, 263, 264, 265, 266, 267, 268, 269, 270, 271, 272, 273, 274, 275, 276, 277, 278, 279] : List Nat), cdM M := List.forall_mem_cons.mpr ⟨cd_260, List.forall_mem_cons.mpr ⟨cd_261, List.forall_mem_cons.mpr ⟨cd_262, List.forall_mem_cons.mpr ⟨cd_263, List.forall_mem_cons.mpr ⟨cd_264, List.forall_mem_cons.mpr ⟨cd_265, List.forall_mem_cons.mpr ⟨cd_266, List.forall_mem_cons.mpr ⟨cd_267, List.forall_mem_cons.mpr ⟨cd_268, List.forall_mem_cons.mpr ⟨cd_269, List.forall_mem_cons.mpr ⟨cd_270, List.forall_mem_cons.mpr ⟨cd_271, List.forall_mem_cons.mpr ⟨cd_272, List.forall_mem_cons.mpr ⟨cd_273, List.forall_mem_cons.mpr ⟨cd_274, List.forall_mem_cons.mpr ⟨cd_275, List.forall_mem_cons.mpr ⟨cd_276, List.forall_mem_cons.mpr ⟨cd_277, List.forall_mem_cons.mpr ⟨cd_278, List.forall_mem_cons.mpr ⟨cd_279, fun _ h => absurd h List.not_mem_nil⟩⟩⟩⟩⟩⟩⟩⟩⟩⟩⟩⟩⟩⟩⟩⟩⟩⟩⟩⟩
theorem cd_all_14 : ∀ M ∈ ([280, 281, 282, 283, 284] : List Nat), cdM M := List.forall_mem_cons.mpr ⟨cd_280, List.forall_mem_cons.mpr ⟨cd_281, List.forall_mem_cons.mpr ⟨cd_282, List.forall_mem_cons.mpr ⟨cd_283, List.forall_mem_cons.mpr ⟨cd_284, fun _ h => absurd h List.not_mem_nil⟩⟩⟩⟩⟩
theorem cd_all (M : Nat) (h : M < 285) : cdM M := (List.forall_mem_append.mpr ⟨cd_all_0, List.forall_mem_append.mpr ⟨cd_all_1, List.forall_mem_append.mpr ⟨cd_all_2, List.forall_mem_append.mpr ⟨cd_all_3, List.forall_mem_append.mpr ⟨cd_all_4, List.forall_mem_append.mpr ⟨cd_all_5, List.forall_mem_append.mpr ⟨cd_all_6, List.forall_mem_append.mpr ⟨cd_all_7, List.forall_mem_append.mpr ⟨cd_all_8, List.forall_mem_append.mpr ⟨cd_all_9, List.forall_mem_append.mpr ⟨cd_all_10, List.forall_mem_append.mpr ⟨cd_all_11, List.forall_mem_append.mpr ⟨cd_all_12, List.forall_mem_append.mpr ⟨cd_all_13, cd_all_14⟩⟩⟩⟩⟩⟩⟩⟩⟩⟩⟩⟩⟩⟩) M (m_range285 h)
theorem obI : Cond.instanceMethod Lib.objectInit ∈ gT ∧ Cond.code Lib.objectInit ⟨#[0xb1]⟩ 1 none ∈ gT := ⟨gT_t 32 (by decide +kernel) (by decide +kernel), gT_t 33 (by decide +kernel) (by decide +kernel)⟩
theorem mw : Cond.initialized "java/lang/Math" ∈ gT := gT_t 14 (by decide +kernel) (by decide +kernel)
theorem mw7 : Cond.static Lib.Math.min.name ∈ gT ∧ Cond.code Lib.Math.min.name Lib.Math.min.code 2 (some .int) ∈ gT := ⟨gT_t 537 (by decide +kernel) (by decide +kernel), gT_t 538 (by decide +kernel) (by decide +kernel)⟩
theorem mw8 : Cond.static Lib.Math.max.name ∈ gT ∧ Cond.code Lib.Math.max.name Lib.Math.max.code 2 (some .int) ∈ gT := ⟨gT_t 641 (by decide +kernel) (by decide +kernel), gT_t 642 (by decide +kernel) (by decide +kernel)⟩
theorem mw10 : Cond.static Lib.MathLoose.min_long.x ∈ gT ∧ Cond.code Lib.MathLoose.min_long.x Lib.MathLoose.min_long.code 4 (some .long) ∈ gT := ⟨gT_t 948 (by decide +kernel) (by decide +kernel), gT_t 949 (by decide +kernel) (by decide +kernel)⟩
theorem mi_a : ∀ M, M < 285 → mC M ≠ 16 → _root_.Jvm.plainName (mY M).cls = true := by decide +kernel
theorem mi_b : ∀ M, M < 285 → (mY M).cls ≠ "java/lang/invoke/MethodHandle" ∧ (mY M).cls ≠ "java/lang/invoke/VarHandle" := by decide +kernel
theorem mi_c : ∀ M, M < 285 → ((parseMethodDescriptor (mY M).desc).map fun d => d.parameters.length) = some (mP M) := by decide +kernel
theorem mi_d : ∀ M, M < 285 → mC M < 13 → (vwCl[mC M]?.map fun r => r.1) = some (mY M).cls := by decide +kernel
theorem mi_e : ∀ M, M < 285 → mC M = 13 → (mY M).cls = "java/lang/String" := by decide +kernel
theorem mi_all (M : Nat) (h : nok M) : _root_.Jvm.plainName (mY M).cls = true ∧ ((mY M).cls ≠ "java/lang/invoke/MethodHandle" ∧ (mY M).cls ≠ "java/lang/invoke/VarHandle") ∧ ((parseMethodDescriptor (mY M).desc).map fun d => d.parameters.length) = some (mP M) ∧ (mC M < 13 → (vwCl[mC M]?.map fun r => r.1) = some (mY M).cls) ∧ (mC M = 13 → (mY M).cls = "java/lang/String") := ⟨mi_a M h.1 h.2, mi_b M h.1, mi_c M h.1, mi_d M h.1, mi_e M h.1⟩
theorem pt_mem {M : Nat} (h : M < 287) : pt M ∈ ptab := by
  have hl : ptab.length = 287 := by decide +kernel
  unfold pt
  rw [List.getD_eq_getElem?_getD, List.getElem?_eq_getElem (by omega)]
  exact List.getElem_mem _
theorem lookup_mem {l : List (Nat × aI)} {k : Nat} {q : aI} (h : l.lookup k = some q) : (k, q) ∈ l := by
  induction l with
  | nil => cases h
  | cons a r ih =>
    rw [List.lookup_cons] at h
    split at h
    · next e =>
      cases h
      rw [eq_of_beq e]
      exact List.mem_cons_self
    · exact List.mem_cons_of_mem _ (ih h)
theorem cod_mem {M pc : Nat} {q : aI} (h : cod M pc = some q) : (pc, q) ∈ mK M := lookup_mem h
theorem cod_dec {M pc : Nat} {q : aI} (hM : M < 287) (h : cod M pc = some q) : decode (mB M) pc = .ok (q.1, iln q.1 pc) := by
  have h1 : dkP (pt M) := dk_all _ (pt_mem hM)
  exact h1 (pc, q) (cod_mem h)
theorem cod_ok {M pc : Nat} {q : aI} (hM : M < 287) (h : cod M pc = some q) : okQ M q := ok_all M hM _ (cod_mem h)
theorem hlen_put {hp : aH} {x : Int} {sh : Nat} {l : List Int} {k : Nat} {w : Int} (h : hlen hp) (hc : cellAt hp x = some (sh, l)) : hlen (putAt hp x (sh, l.set k w)) := by
  intro c hm
  rcases List.mem_or_eq_of_mem_set hm with hm | rfl
  · exact h c hm
  · rw [List.length_set]
    exact h _ (cellAt_mem hc)
theorem hlen_app {a b : aH} (h : hlen a) (h2 : hlen b) : hlen (a ++ b) := fun c hm => (List.mem_append.mp hm).elim (h c) (h2 c)
theorem nfs_le (ci : Nat) : nfs ci ≤ 60000 := by
  unfold nfs
  split
  · next r h =>
    have := (by decide +kernel : ∀ r ∈ vwCl, r.2.2 ≤ 60000)
    exact this r (List.mem_of_getElem? h)
  · omega
set_option maxHeartbeats 4000000 in
theorem stp_hlen {al : Bool} {hp : aH} {ls st : List aV} {pc : Nat} {q : aI} {z : Nat × List aV × List aV × aH} (hl : hlen hp) (h : stp1 al hp ls st pc q = some z) : hlen z.2.2.2 := by
  obtain ⟨I, v, x, y⟩ := q
  have O : ∀ {b : Bool} {r : aR}, oif b r = some z → r = some z := fun h => (oif_inv h).2
  cases I with
  | iconst n => cases O (show oif _ _ = some z from h); exact hl
  | bipush n => cases O (show oif _ _ = some z from h); exact hl
  | sipush n => cases O (show oif _ _ = some z from h); exact hl
  | lconst k => cases (show some _ = some z from h); exact hl
  | ldc i => cases O (show oif _ _ = some z from h); exact hl
  | ldc_w i => cases O (show oif _ _ = some z from h); exact hl
  | ldc2_w i => cases O (show oif _ _ = some z from h); exact hl
  | iload_n k => obtain ⟨-, -, -, rfl⟩ := ldS_inv (show ldS _ _ _ _ _ _ = some z from h); exact hl
  | iload k => obtain ⟨-, -, -, rfl⟩ := ldS_inv (show ldS _ _ _ _ _ _ = some z from h); exact hl
  | aload_n k => obtain ⟨-, -, -, rfl⟩ := ldS_inv (show ldS _ _ _ _ _ _ = some z from h); exact hl
  | aload k => obtain ⟨-, -, -, rfl⟩ := ldS_inv (show ldS _ _ _ _ _ _ = some z from h); exact hl
  | lload_n k => obtain ⟨-, -, -, rfl⟩ := ldS_inv (show ldS _ _ _ _ _ _ = some z from h); exact hl
  | lload k => obtain ⟨-, -, -, rfl⟩ := ldS_inv (show ldS _ _ _ _ _ _ = some z from h); exact hl
  | istore_n k => obtain ⟨-, st', -, -, -, ⟨-, -, rfl⟩ | ⟨-, rfl⟩⟩ := stS_inv (show stS _ _ _ _ _ _ = some z from h) <;> exact hl
  | istore i => obtain ⟨-, st', -, -, -, ⟨-, -, rfl⟩ | ⟨-, rfl⟩⟩ := stS_inv (show stS _ _ _ _ _ _ = some z from h) <;> exact hl
  | astore_n k => obtain ⟨-, st', -, -, -, ⟨-, -, rfl⟩ | ⟨-, rfl⟩⟩ := stS_inv (show stS _ _ _ _ _ _ = some z from h) <;> exact hl
  | astore i => obtain ⟨-, st', -, -, -, ⟨-, -, rfl⟩ | ⟨-, rfl⟩⟩ := stS_inv (show stS _ _ _ _ _ _ = some z from h) <;> exact hl
  | lstore_n k => obtain ⟨-, st', -, -, -, ⟨-, -, rfl⟩ | ⟨-, rfl⟩⟩ := stS_inv (show stS _ _ _ _ _ _ = some z from h) <;> exact hl
  | lstore i => obtain ⟨-, st', -, -, -, ⟨-, -, rfl⟩ | ⟨-, rfl⟩⟩ := stS_inv (show stS _ _ _ _ _ _ = some z from h) <;> exact hl
  | iinc i n =>
    simp only [stp1] at h
    split at h
    · cases O h; exact hl
    · cases h
  | iadd => obtain ⟨-, -, -, -, -, -, rfl⟩ := op2_inv (show op2 _ _ _ _ _ = some z from h); exact hl
  | isub => obtain ⟨-, -, -, -, -, -, rfl⟩ := op2_inv (show op2 _ _ _ _ _ = some z from h); exact hl
  | imul => obtain ⟨-, -, -, -, -, -, rfl⟩ := op2_inv (show op2 _ _ _ _ _ = some z from h); exact hl
  | idiv => obtain ⟨-, -, -, -, -, -, rfl⟩ := op2_inv (show op2 _ _ _ _ _ = some z from h); exact hl
  | irem => obtain ⟨-, -, -, -, -, -, rfl⟩ := op2_inv (show op2 _ _ _ _ _ = some z from h); exact hl
  | iand => obtain ⟨-, -, -, -, -, -, rfl⟩ := op2_inv (show op2 _ _ _ _ _ = some z from h); exact hl
  | ior => obtain ⟨-, -, -, -, -, -, rfl⟩ := op2_inv (show op2 _ _ _ _ _ = some z from h); exact hl
  | ishl => obtain ⟨-, -, -, -, -, -, rfl⟩ := op2_inv (show op2 _ _ _ _ _ = some z from h); exact hl
  | ishr => obtain ⟨-, -, -, -, -, -, rfl⟩ := op2_inv (show op2 _ _ _ _ _ = some z from h); exact hl
  | iushr => obtain ⟨-, -, -, -, -, -, rfl⟩ := op2_inv (show op2 _ _ _ _ _ = some z from h); exact hl
  | ladd => obtain ⟨-, -, -, -, -, -, rfl⟩ := op2L_inv (show op2L _ _ _ _ _ _ = some z from h); exact hl
  | lsub => obtain ⟨-, -, -, -, -, -, rfl⟩ := op2L_inv (show op2L _ _ _ _ _ _ = some z from h); exact hl
  | lmul => obtain ⟨-, -, -, -, -, -, rfl⟩ := op2L_inv (show op2L _ _ _ _ _ _ = some z from h); exact hl
  | ldiv => obtain ⟨-, -, -, -, -, -, rfl⟩ := op2L_inv (show op2L _ _ _ _ _ _ = some z from h); exact hl
  | lrem => obtain ⟨-, -, -, -, -, -, rfl⟩ := op2L_inv (show op2L _ _ _ _ _ _ = some z from h); exact hl
  | land => obtain ⟨-, -, -, -, -, -, rfl⟩ := op2L_inv (show op2L _ _ _ _ _ _ = some z from h); exact hl
  | lcmp => obtain ⟨-, -, -, -, -, -, rfl⟩ := op2L_inv (show op2L _ _ _ _ _ _ = some z from h); exact hl
  | lshr =>
    simp only [stp1] at h
    split at h
    · cases h; exact hl
    · cases h
  | i2l => obtain ⟨-, -, -, rfl⟩ := op1_inv (show op1 _ _ _ _ _ _ _ = some z from h); exact hl
  | l2i => obtain ⟨-, -, -, rfl⟩ := op1_inv (show op1 _ _ _ _ _ _ _ = some z from h); exact hl
  | i2c => obtain ⟨-, -, -, rfl⟩ := op1_inv (show op1 _ _ _ _ _ _ _ = some z from h); exact hl
  | i2b => obtain ⟨-, -, -, rfl⟩ := op1_inv (show op1 _ _ _ _ _ _ _ = some z from h); exact hl
  | dup =>
    simp only [stp1] at h
    split at h
    · cases O h; exact hl
    · cases h
  | dup2 =>
    simp only [stp1] at h
    split at h
    · cases O h; exact hl
    · cases h
  | pop =>
    simp only [stp1] at h
    split at h
    · cases O h; exact hl
    · cases h
  | ifCond c o => obtain ⟨-, -, -, -, -, rfl⟩ := if1_inv (show if1 _ _ _ _ _ _ = some z from h); exact hl
  | if_icmp c o => obtain ⟨-, -, -, -, -, -, rfl⟩ := if2_inv (show if2 _ _ _ _ _ _ = some z from h); exact hl
  | goto o => obtain ⟨-, -, rfl⟩ := jmp_inv (show jmp _ _ _ _ _ = some z from h); exact hl
  | tableswitch d lo hi offs =>
    obtain ⟨x, st', rfl, ⟨-, e2⟩ | ⟨-, -, off, -, e4⟩⟩ := swT_inv (show swT _ _ _ _ _ _ _ _ = some z from h)
    · obtain ⟨-, -, rfl⟩ := jmp_inv e2; exact hl
    · obtain ⟨-, -, rfl⟩ := jmp_inv e4; exact hl
  | lookupswitch d ps =>
    obtain ⟨x, st', rfl, e1, e2⟩ := swL_inv (show swL _ _ _ _ _ _ = some z from h)
    obtain ⟨-, -, rfl⟩ := jmp_inv e2; exact hl
  | getfield i =>
    rcases gfS_inv (show gfS _ _ _ _ _ _ = some z from h) with ⟨-, -, -, -, -, -, -, rfl⟩ | ⟨-, -, -, -, ⟨-, rfl⟩ | ⟨-, rfl⟩⟩ <;> exact hl
  | putfield i =>
    obtain ⟨w, a, st', l, -, e1, -, -, rfl⟩ := pfS_inv (show pfS _ _ _ _ _ _ = some z from h)
    exact hlen_put hl e1
  | getstatic i => cases O (show oif _ _ = some z from h); exact hl
  | iaload => obtain ⟨-, -, -, -, -, -, -, -, -, -, -, -, rfl⟩ := alS_inv (show alS _ _ _ _ _ _ _ = some z from h); exact hl
  | laload => obtain ⟨-, -, -, -, -, -, -, -, -, -, -, -, rfl⟩ := alS_inv (show alS _ _ _ _ _ _ _ = some z from h); exact hl
  | aaload => obtain ⟨-, -, -, -, -, -, -, -, -, -, -, -, rfl⟩ := alS_inv (show alS _ _ _ _ _ _ _ = some z from h); exact hl
  | baload =>
    rcases blS_inv (show blS _ _ _ _ = some z from h) with ⟨-, -, -, -, -, -, -, rfl⟩ | h
    · exact hl
    · obtain ⟨-, -, -, -, -, -, -, -, -, -, -, -, rfl⟩ := alS_inv h; exact hl
  | iastore => obtain ⟨w, j, a, st', l, -, e1, -, -, -, rfl⟩ := asS_inv (show asS _ _ _ _ _ _ = some z from h); exact hlen_put hl e1
  | lastore => obtain ⟨w, j, a, st', l, -, e1, -, -, -, rfl⟩ := asS_inv (show asS _ _ _ _ _ _ = some z from h); exact hlen_put hl e1
  | bastore => obtain ⟨w, j, a, st', l, -, e1, -, -, -, rfl⟩ := asS_inv (show asS _ _ _ _ _ _ = some z from h); exact hlen_put hl e1
  | aastore => obtain ⟨w, j, a, st', sh, l, lv, -, e1, -, -, -, -, rfl⟩ := arS_inv (show arS _ _ _ _ = some z from h); exact hlen_put hl e1
  | arraylength => obtain ⟨-, -, -, -, -, -, -, rfl⟩ | ⟨-, -, -, -, rfl⟩ := anS_inv (show anS _ _ _ _ = some z from h) <;> exact hl
  | new i =>
    have h7 := O (show oif _ _ = some z from h)
    unfold nwS at h7
    cases h7
    exact hlen_app hl (fun c hm => by rw [List.mem_singleton.mp hm, List.length_replicate]; exact nfs_le _)
  | newarray t =>
    obtain ⟨n, st', -, e1, e2, rfl⟩ := naS_inv (O (show oif _ _ = some z from h))
    exact hlen_app hl (fun c hm => by rw [List.mem_singleton.mp hm, List.length_replicate]; omega)
  | anewarray t =>
    obtain ⟨n, st', -, e1, e2, rfl⟩ := naS_inv (O (show oif _ _ = some z from h))
    exact hlen_app hl (fun c hm => by rw [List.mem_singleton.mp hm, List.length_replicate]; omega)
  | multianewarray i d =>
    obtain ⟨n, k, st', -, e1, e2, e3, e4, rfl⟩ := nmS_inv (O (show oif _ _ = some z from h))
    refine hlen_app hl (fun c hm => ?_)
    rcases List.mem_cons.mp hm with rfl | hm
    · simp only [List.length_map, List.length_range]; omega
    · rw [List.eq_of_mem_replicate hm, List.length_replicate]; omega
  | _ => exact absurd (show none = some z from h) (fun q => nomatch q)
def isRet (I : Instr) : Bool := match I with
  | .return_ => true | .ireturn => true | .lreturn => true | _ => false
def isInv (I : Instr) : Bool := match I with
  | .invokevirtual _ => true | .invokestatic _ => true | .invokespecial _ => true | _ => false
/-- may a method of this kind be called so -/
def rcvOK (hp : aH) (kd : Int) (N : Nat) (as : List aV) : Bool :=
  if kd = 0 then match as with
    | (1, a) :: _ => match cellAt hp a with
      | some (sh, _) => decide (sh = 20 + mC N) && decide (mC N < 13)
      | none => false
    | _ => false
  else if kd = 5 then match as with
    | (4, i) :: _ => decide (mC N = 13) && decide (i = 0 ∨ i = 1)
    | _ => false
  else if kd = 2 ∨ kd = 3 then match as with
    | (1, a) :: _ => decide (1 ≤ a)
    | _ => false
  else decide (kd = 1 ∨ kd = 4)
/-- Math.min (7), max (8), min of longs (10) -/
def mathS (kd : Int) (st : List aV) : Option (List aV) := match st with
  | (0, y) :: (0, x) :: st' => if kd = 7 then some ((0, min x y) :: st') else if kd = 8 then some ((0, max x y) :: st') else none
  | (2, y) :: (2, x) :: st' => if kd = 10 then some ((2, min x y) :: st') else none
  | _ => none
theorem mathS_inv {kd : Int} {st st2 : List aV} (h : mathS kd st = some st2) : (∃ x y st', st = (0, y) :: (0, x) :: st' ∧ ((kd = 7 ∧ st2 = (0, min x y) :: st') ∨ (kd = 8 ∧ st2 = (0, max x y) :: st'))) ∨ (∃ x y st', st = (2, y) :: (2, x) :: st' ∧ kd = 10 ∧ st2 = (2, min x y) :: st') := by
  unfold mathS at h
  split at h
  · next y x st' =>
    split at h
    · next e => exact Or.inl ⟨x, y, st', rfl, Or.inl ⟨e, (Option.some.inj h).symm⟩⟩
    · split at h
      · next e => exact Or.inl ⟨x, y, st', rfl, Or.inr ⟨e, (Option.some.inj h).symm⟩⟩
      · cases h
  · next y x st' =>
    split at h
    · next e => exact Or.inr ⟨x, y, st', rfl, e, (Option.some.inj h).symm⟩
    · cases h
  · cases h
theorem mathS_gds {kd : Int} {st st2 : List aV} (h : mathS kd st = some st2) (g : gds st) : gds st2 := by
  rcases mathS_inv h with ⟨x, y, st', rfl, ⟨-, rfl⟩ | ⟨-, rfl⟩⟩ | ⟨x, y, st', rfl, -, rfl⟩
  · obtain ⟨a, b⟩ := gds_cons.mp g
    obtain ⟨c, d⟩ := gds_cons.mp b
    have a1 := a.1 rfl
    have c1 := c.1 rfl
    simp only at a1 c1
    exact gds_cons.mpr ⟨gd_int (by omega), d⟩
  · obtain ⟨a, b⟩ := gds_cons.mp g
    obtain ⟨c, d⟩ := gds_cons.mp b
    have a1 := a.1 rfl
    have c1 := c.1 rfl
    simp only at a1 c1
    exact gds_cons.mpr ⟨gd_int (by omega), d⟩
  · obtain ⟨a, b⟩ := gds_cons.mp g
    obtain ⟨c, d⟩ := gds_cons.mp b
    have a1 := a.2 rfl
    have c1 := c.2 rfl
    simp only at a1 c1
    exact gds_cons.mpr ⟨gd_long (by omega), d⟩
/-- a run to the method's end, in so many steps at most: what it gives back, the heap behind it -/
def runA : Nat → Bool → Nat → Nat → List aV → List aV → aH → Option (Option aV × aH)
  | 0, _, _, _, _, _, _ => none
  | f + 1, al, M, pc, ls, st, hp => match cod M pc with
    | none => none
    | some q =>
      if isRet q.1 then (retS (mR M) q.1 st).map fun v => (v, hp)
      else if isInv q.1 then
        if q.2.1 = 7 ∨ q.2.1 = 8 ∨ q.2.1 = 10 then match mathS q.2.1 st with
          | some st2 => if catS st2.tail ≤ 8 then runA f al M (pc + 3) ls st2 hp else none
          | none => none
        else if q.2.2.1 = 999 then match st with
          | (1, a) :: st' => if 1 ≤ a ∧ catS st' ≤ 8 ∧ q.2.1 = 6 then runA f al M (pc + 3) ls st' hp else none
          | _ => none
        else if q.2.2.2 ≤ st.length ∧ catS (st.drop q.2.2.2) ≤ 8 ∧ rcvOK hp q.2.1 q.2.2.1 (st.take q.2.2.2).reverse = true ∧ (entL (st.take q.2.2.2).reverse).length ≤ mL q.2.2.1 then
          match runA f al q.2.2.1 0 (entA (st.take q.2.2.2).reverse (mL q.2.2.1)) [] hp with
          | some (rv, h1) => runA f al M (pc + 3) ls (rv.toList ++ st.drop q.2.2.2) h1
          | none => none
        else none
      else match stp1 al hp ls st pc q with
        | some z => runA f al M z.1 z.2.1 z.2.2.1 z.2.2.2
        | none => none
def callP (f : Nat) (al : Bool) (M pc : Nat) (ls st : List aV) (hp : aH) (rv : Option aV) (hp' : aH) (q : aI) : Prop :=
  (∃ st2, mathS q.2.1 st = some st2 ∧ catS st2.tail ≤ 8 ∧ runA f al M (pc + 3) ls st2 hp = some (rv, hp')) ∨ (¬ (q.2.1 = 7 ∨ q.2.1 = 8 ∨ q.2.1 = 10) ∧ q.2.2.1 = 999 ∧ q.2.1 = 6 ∧ ∃ a st', st = (1, a) :: st' ∧ 1 ≤ a ∧ catS st' ≤ 8 ∧ runA f al M (pc + 3) ls st' hp = some (rv, hp')) ∨
  (¬ (q.2.1 = 7 ∨ q.2.1 = 8 ∨ q.2.1 = 10) ∧ q.2.2.1 ≠ 999 ∧ q.2.2.2 ≤ st.length ∧ catS (st.drop q.2.2.2) ≤ 8 ∧ rcvOK hp q.2.1 q.2.2.1 (st.take q.2.2.2).reverse = true ∧ (entL (st.take q.2.2.2).reverse).length ≤ mL q.2.2.1 ∧ ∃ r1 h1, runA f al q.2.2.1 0 (entA (st.take q.2.2.2).reverse (mL q.2.2.1)) [] hp = some (r1, h1) ∧ runA f al M (pc + 3) ls (r1.toList ++ st.drop q.2.2.2) h1 = some (rv, hp'))
theorem run_inv {f : Nat} {al : Bool} {M pc : Nat} {ls st : List aV} {hp : aH} {rv : Option aV} {hp' : aH} (h : runA (f + 1) al M pc ls st hp = some (rv, hp')) :
    ∃ q, cod M pc = some q ∧ ((isRet q.1 = true ∧ retS (mR M) q.1 st = some rv ∧ hp' = hp) ∨ (isRet q.1 = false ∧ isInv q.1 = true ∧ callP f al M pc ls st hp rv hp' q) ∨ (isRet q.1 = false ∧ isInv q.1 = false ∧ ∃ z, stp1 al hp ls st pc q = some z ∧ runA f al M z.1 z.2.1 z.2.2.1 z.2.2.2 = some (rv, hp'))) := by
  unfold runA at h
  split at h
  · cases h
  · next q hq =>
    refine ⟨q, hq, ?_⟩
    split at h
    · next e1 =>
      obtain ⟨v, h1, h2⟩ := Option.map_eq_some_iff.mp h
      cases h2
      exact Or.inl ⟨e1, h1, rfl⟩
    · next e1 =>
      have e1 : isRet q.1 = false := by simpa using e1
      split at h
      · next e2 =>
        refine Or.inr (Or.inl ⟨e1, e2, ?_⟩)
        split at h
        · next e0 =>
          split at h
          · next st2 e5 =>
            split at h
            · next e6 => exact Or.inl ⟨st2, e5, e6, h⟩
            · cases h
          · cases h
        next e0 =>
        split at h
        · next e3 =>
          split at h
          · next a st' =>
            split at h
            · next e4 => exact Or.inr (Or.inl ⟨e0, e3, e4.2.2, a, st', rfl, e4.1, e4.2.1, h⟩)
            · cases h
          · cases h
        · next e3 =>
          split at h
          · next e4 =>
            obtain ⟨a1, a2, a3, a4⟩ := e4
            split at h
            · next r1 h1 e5 => exact Or.inr (Or.inr ⟨e0, e3, a1, a2, a3, a4, r1, h1, e5, h⟩)
            · cases h
          · cases h
      · next e2 =>
        have e2 : isInv q.1 = false := by simpa using e2
        refine Or.inr (Or.inr ⟨e1, e2, ?_⟩)
        split at h
        · next z hz => exact ⟨z, hz, h⟩
        · cases h
theorem ret_gd {ty : Option FieldType} {I : Instr} {st : List aV} {rv : Option aV} (h : retS ty I st = some rv) (g : gds st) : ∀ v, rv = some v → gd v := by
  unfold retS at h
  intro v hv
  subst hv
  split at h
  · cases h
  · split at h
    · cases h; exact (gds_cons.mp g).1
    · cases h
  · cases h; exact (gds_cons.mp g).1
  · cases h; exact (gds_cons.mp g).1
  · cases h; exact (gds_cons.mp g).1
  · cases h
theorem gds_entL {l : List aV} (h : gds l) : gds (entL l) := by
  induction l with
  | nil => exact gds_nil
  | cons v r ih =>
    obtain ⟨h1, h2⟩ := gds_cons.mp h
    unfold entL
    split
    · exact gds_cons.mpr ⟨h1, gds_cons.mpr ⟨gd_oth (by decide) (by decide), ih h2⟩⟩
    · exact gds_cons.mpr ⟨h1, ih h2⟩
theorem gds_entA {l : List aV} {n : Nat} (h : gds l) : gds (entA l n) := by
  unfold entA
  exact gds_app.mpr ⟨gds_entL h, fun v hv => by rw [List.eq_of_mem_replicate hv]; exact gd_oth (by decide) (by decide)⟩
theorem gds_take {l : List aV} {n : Nat} (h : gds l) : gds (l.take n).reverse := fun v hv => h v (List.mem_of_mem_take (List.mem_reverse.mp hv))
theorem gds_drop {l : List aV} {n : Nat} (h : gds l) : gds (l.drop n) := fun v hv => h v (List.mem_of_mem_drop hv)
theorem gds_opt {o : Option aV} {l : List aV} (h : ∀ v, o = some v → gd v) (h2 : gds l) : gds (o.toList ++ l) := gds_app.mpr ⟨fun v hv => h v (by cases o <;> simp_all), h2⟩
theorem okN {M : Nat} {q : aI} (hq : okQ M q) (hi : isInv q.1 = true) : ∃ idx, okC M idx q.2.1 q.2.2.1 q.2.2.2 ∧ ((q.1 = .invokevirtual idx ∧ (q.2.1 = 0 ∨ q.2.1 = 5 ∨ q.2.1 = 9)) ∨ (q.1 = .invokestatic idx ∧ (q.2.1 = 1 ∨ q.2.1 = 4 ∨ q.2.1 = 9 ∨ q.2.1 = 7 ∨ q.2.1 = 8 ∨ q.2.1 = 10)) ∨ (q.1 = .invokespecial idx ∧ (q.2.1 = 2 ∨ q.2.1 = 3 ∨ q.2.1 = 6 ∨ q.2.1 = 9))) := by
  obtain ⟨I, v, x, y⟩ := q
  cases I with
  | invokevirtual i => exact ⟨i, hq.2.1, Or.inl ⟨rfl, hq.2.2⟩⟩
  | invokestatic i => exact ⟨i, hq.2.1, Or.inr (Or.inl ⟨rfl, hq.2.2⟩)⟩
  | invokespecial i => exact ⟨i, hq.2.1, Or.inr (Or.inr ⟨rfl, hq.2.2⟩)⟩
  | _ => exact absurd hi (by simp [isInv])
theorem ok_lt {M idx N n : Nat} {kd : Int} {hp : aH} {as : List aV} (h : okC M idx kd N n) (hr : rcvOK hp kd N as = true) : nok N := by
  obtain ⟨-, h0, h1, h2, h3, h4, -⟩ := h
  unfold rcvOK at hr
  split at hr
  · next e => exact (h0 (Or.inl e)).1
  · split at hr
    · next e => exact (h0 (Or.inr e)).1
    · split at hr
      · next e => exact e.elim (fun e => (h2 e).1) (fun e => (h3 e).1)
      · exact (of_decide_eq_true hr).elim (fun e => (h1 e).1) (fun e => (h4 e).1)
def okE (hp : aH) (rv : Option aV) (hp' : aH) : Prop := hp.length ≤ hp'.length ∧ tot hp ≤ tot hp' ∧ gdh hp' ∧ hlen hp' ∧ ∀ v, rv = some v → gd v
theorem run_ok : ∀ (f : Nat) (al : Bool) (M pc : Nat) (ls st : List aV) (hp : aH) (rv : Option aV) (hp' : aH), runA f al M pc ls st hp = some (rv, hp') → M < 287 → gds ls → gds st → gdh hp → hlen hp → okE hp rv hp' := by
  intro f
  induction f with
  | zero => intro al M pc ls st hp rv hp' h; cases h
  | succ f ih =>
    intro al M pc ls st hp rv hp' h hM g1 g2 g3 g4
    obtain ⟨q, hq, ⟨-, h1, rfl⟩ | ⟨-, hi, h1⟩ | ⟨-, -, z, hz, h1⟩⟩ := run_inv h
    · exact ⟨Nat.le_refl _, Nat.le_refl _, g3, g4, ret_gd h1 g2⟩
    · rcases h1 with ⟨st2, e1, -, h1⟩ | ⟨-, -, -, a, st', rfl, -, -, h1⟩ | ⟨-, -, -, -, hr, -, r1, h1, e1, e2⟩
      · exact ih _ _ _ _ _ _ _ _ h1 hM g1 (mathS_gds e1 g2) g3 g4
      · exact ih _ _ _ _ _ _ _ _ h1 hM g1 (gds_cons.mp g2).2 g3 g4
      · obtain ⟨idx, hc, -⟩ := okN (cod_ok hM hq) hi
        obtain ⟨a1, a2, a3, a4, a5⟩ := ih _ _ _ _ _ _ _ _ e1 (by have := (ok_lt hc hr).1; omega) (gds_entA (gds_take g2)) gds_nil g3 g4
        obtain ⟨b1, b2, b3, b4, b5⟩ := ih _ _ _ _ _ _ _ _ e2 hM g1 (gds_opt a5 (gds_drop g2)) a3 a4
        exact ⟨Nat.le_trans a1 b1, Nat.le_trans a2 b2, b3, b4, b5⟩
    · obtain ⟨k1, k2, k3, k4, k5⟩ := stp_ok (fun i d e => by
        have hk := (cod_ok hM hq).1
        unfold okR at hk
        rw [e] at hk
        obtain ⟨-, ty, hty, -⟩ := hk
        exact hty.elim (fun z => Or.inl z.1) (fun z => Or.inr z.1)) g4 hz g1 g2 g3
      obtain ⟨b1, b2, b3, b4, b5⟩ := ih _ _ _ _ _ _ _ _ h1 hM k1 k2 k3 (stp_hlen g4 hz)
      exact ⟨Nat.le_trans k4 b1, Nat.le_trans k5 b2, b3, b4, b5⟩
