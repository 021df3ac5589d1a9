/-! the lists of words; classes with their fields -/
def gx_Ts_0 : List Cond := [w_0, w_1, w_2, w_3, w_4, w_5, w_6, w_7, w_8, w_9, w_10, w_11, w_12, w_13, w_14, w_15, w_16, w_17, w_18, w_19, w_20, w_21, w_22, w_23, w_24, w_25, w_26, w_27, w_28, w_29, w_30, w_31, w_32, w_33, w_34, w_35, w_36, w_37, w_38, w_39, w_40, w_41, w_42, w_43, w_44, w_45, w_46, w_47, w_48, w_49, w_50, w_51, w_52, w_53, w_54, w_55, w_56, w_57, w_58, w_59]
theorem gx_Ts_i0 : ∀ w ∈ gx_Ts_0, w ∈ lw_tbl := List.forall_mem_cons.mpr ⟨lw_inS (p_0 (List.mem_of_getElem? (i := 0) rfl)), List.forall_mem_cons.mpr ⟨lw_inS (p_0 (List.mem_of_getElem? (i := 1) rfl)), List.forall_mem_cons.mpr ⟨lw_inS (p_0 (List.mem_of_getElem? (i := 2) rfl)), List.forall_mem_cons.mpr ⟨lw_inS (p_0 (List.mem_of_getElem? (i := 3) rfl)), List.forall_mem_cons.mpr ⟨lw_inS (p_0 (List.mem_of_getElem? (i := 4) rfl)), List.forall_mem_cons.mpr ⟨lw_inS (p_0 (List.mem_of_getElem? (i := 5) rfl)), List.forall_mem_cons.mpr ⟨lw_inS (p_0 (List.mem_of_getElem? (i := 6) rfl)), List.forall_mem_cons.mpr ⟨lw_inS (p_0 (List.mem_of_getElem? (i := 7) rfl)), List.forall_mem_cons.mpr ⟨lw_inS (p_0 (List.mem_of_getElem? (i := 8) rfl)), List.forall_mem_cons.mpr ⟨lw_inS (p_0 (List.mem_of_getElem? (i := 9) rfl)), List.forall_mem_cons.mpr ⟨lw_inS (p_0 (List.mem_of_getElem? (i := 10) rfl)), List.forall_mem_cons.mpr ⟨lw_inS (p_0 (List.mem_of_getElem? (i := 11) rfl)), List.forall_mem_cons.mpr ⟨lw_inS (p_0 (List.mem_of_getElem? (i := 12) rfl)), List.forall_mem_cons.mpr ⟨lw_inS (p_0 (List.mem_of_getElem? (i := 13) rfl)), List.forall_mem_cons.mpr ⟨lw_inS (p_0 (List.mem_of_getElem? (i := 14) rfl)), List.forall_mem_cons.mpr ⟨lw_inS (p_0 (List.mem_of_getElem? (i := 15) rfl)), List.forall_mem_cons.mpr ⟨lw_inS (p_0 (List.mem_of_getElem? (i := 16) rfl)), List.forall_mem_cons.mpr ⟨lw_inS (p_0 (List.mem_of_getElem? (i := 17) rfl)), List.forall_mem_cons.mpr ⟨lw_inS (p_0 (List.mem_of_getElem? (i := 18) rfl)), List.forall_mem_cons.mpr ⟨lw_inS (p_0 (List.mem_of_getElem? (i := 19) rfl)), List.forall_mem_cons.mpr ⟨lw_inS (p_1 (List.mem_of_getElem? (i := 0) rfl)), List.forall_mem_cons.mpr ⟨lw_inS (p_1 (List.mem_of_getElem? (i := 1) rfl)), List.forall_mem_cons.mpr ⟨lw_inS (p_1 (List.mem_of_getElem? (i := 2) rfl)), List.forall_mem_cons.mpr ⟨lw_inS (p_1 (List.mem_of_getElem? (i := 3) rfl)), List.forall_mem_cons.mpr ⟨lw_inS (p_1 (List.mem_of_getElem? (i := 4) rfl)), List.forall_mem_cons.mpr ⟨lw_inS (p_1 (List.mem_of_getElem? (i := 5) rfl)), List.forall_mem_cons.mpr ⟨lw_inS (p_1 (List.mem_of_getElem? (i := 6) rfl)), List.forall_mem_cons.mpr ⟨lw_inS (p_1 (List.mem_of_getElem? (i := 7) rfl)), List.forall_mem_cons.mpr ⟨lw_inS (p_1 (List.mem_of_getElem? (i := 8) rfl)), List.forall_mem_cons.mpr ⟨lw_inS (p_1 (List.mem_of_getElem? (i := 9) rfl)), List.forall_mem_cons.mpr ⟨lw_inS (p_1 (List.mem_of_getElem? (i := 10) rfl)), List.forall_mem_cons.mpr ⟨lw_inS (p_1 (List.mem_of_getElem? (i := 11) rfl)), List.forall_mem_cons.mpr ⟨lw_inS (p_1 (List.mem_of_getElem? (i := 12) rfl)), List.forall_mem_cons.mpr ⟨lw_inS (p_1 (List.mem_of_getElem? (i := 13) rfl)), List.forall_mem_cons.mpr ⟨lw_inS (p_1 (List.mem_of_getElem? (i := 14) rfl)), List.forall_mem_cons.mpr ⟨lw_inS (p_1 (List.mem_of_getElem? (i := 15) rfl)), List.forall_mem_cons.mpr ⟨lw_inS (p_1 (List.mem_of_getElem? (i := 16) rfl)), List.forall_mem_cons.mpr ⟨lw_inS (p_1 (List.mem_of_getElem? (i := 17) rfl)), List.forall_mem_cons.mpr ⟨lw_inS (p_1 (List.mem_of_getElem? (i := 18) rfl)), List.forall_mem_cons.mpr ⟨lw_inS (p_1 (List.mem_of_getElem? (i := 19) rfl)), List.forall_mem_cons.mpr ⟨lw_inS (p_2 (List.mem_of_getElem? (i := 0) rfl)), List.forall_mem_cons.mpr ⟨lw_inS (p_2 (List.mem_of_getElem? (i := 1) rfl)), List.forall_mem_cons.mpr ⟨lw_inS (p_2 (List.mem_of_getElem? (i := 2) rfl)), List.forall_mem_cons.mpr ⟨lw_inS (p_2 (List.mem_of_getElem? (i := 3) rfl)), List.forall_mem_cons.mpr ⟨lw_inS (p_2 (List.mem_of_getElem? (i := 4) rfl)), List.forall_mem_cons.mpr ⟨lw_inS (p_2 (List.mem_of_getElem? (i := 5) rfl)), List.forall_mem_cons.mpr ⟨lw_inS (p_2 (List.mem_of_getElem? (i := 6) rfl)), List.forall_mem_cons.mpr ⟨lw_inS (p_2 (List.mem_of_getElem? (i := 7) rfl)), List.forall_mem_cons.mpr ⟨lw_inS (p_2 (List.mem_of_getElem? (i := 8) rfl)), List.forall_mem_cons.mpr ⟨lw_inS (p_2 (List.mem_of_getElem? (i := 9) rfl)), List.forall_mem_cons.mpr ⟨lw_inS (p_2 (List.mem_of_getElem? (i := 10) rfl)), List.forall_mem_cons.mpr ⟨lw_inS (p_2 (List.mem_of_getElem? (i := 11) rfl)), List.forall_mem_cons.mpr ⟨lw_inS (p_2 (List.mem_of_getElem? (i := 12) rfl)), List.forall_mem_cons.mpr ⟨lw_inS (p_2 (List.mem_of_getElem? (i := 13) rfl)), List.forall_mem_cons.mpr ⟨lw_inS (p_2 (List.mem_of_getElem? (i := 14) rfl)), List.forall_mem_cons.mpr ⟨lw_inS (p_2 (List.mem_of_getElem? (i := 15) rfl)), List.forall_mem_cons.mpr ⟨lw_inS (p_2 (List.mem_of_getElem? (i := 16) rfl)), List.forall_mem_cons.mpr ⟨lw_inS (p_2 (List.mem_of_getElem? (i := 17) rfl)), List.forall_mem_cons.mpr ⟨lw_inS (p_2 (List.mem_of_getElem? (i := 18) rfl)), List.forall_mem_cons.mpr ⟨lw_inS (p_2 (List.mem_of_getElem? (i := 19) rfl)), fun _ h => absurd h List.not_mem_nil⟩⟩⟩⟩⟩⟩⟩⟩⟩⟩⟩⟩⟩⟩⟩⟩⟩⟩⟩⟩⟩⟩⟩⟩⟩⟩⟩⟩⟩⟩⟩⟩⟩⟩⟩⟩⟩⟩⟩⟩⟩⟩⟩⟩⟩⟩⟩⟩⟩⟩⟩⟩⟩⟩⟩⟩⟩⟩⟩⟩
def gx_Ts_1 : List Cond := [w_60, w_61, w_62, w_63, w_64, w_65, w_66, w_67, w_68, w_69, w_70, w_71, w_72, w_73, w_74, w_75, w_76, w_77, w_78, w_79, w_80, w_81, w_82, w_83, w_84, w_85, w_86, w_87, w_88, w_89, w_90, w_91, w_92, w_93, w_94, w_95, w_96, w_97, w_98, w_99, w_100, w_101, w_102, w_103, w_104, w_105, w_106, w_107, w_108, w_109, w_110, w_111, w_112, w_113, w_114, w_115, w_116, w_117, w_118, w_119]
theorem gx_Ts_i1 : ∀ w ∈ gx_Ts_1, w ∈ lw_tbl := List.forall_mem_cons.mpr ⟨lw_inS (p_3 (List.mem_of_getElem? (i := 0) rfl)), List.forall_mem_cons.mpr ⟨lw_inS (p_3 (List.mem_of_getElem? (i := 1) rfl)), List.forall_mem_cons.mpr ⟨lw_inS (p_3 (List.mem_of_getElem? (i := 2) rfl)), List.forall_mem_cons.mpr ⟨lw_inS (p_3 (List.mem_of_getElem? (i := 3) rfl)), List.forall_mem_cons.mpr ⟨lw_inS (p_3 (List.mem_of_getElem? (i := 4) rfl)), List.forall_mem_cons.mpr ⟨lw_inS (p_3 (List.mem_of_getElem? (i := 5) rfl)), List.forall_mem_cons.mpr ⟨lw_inS (p_3 (List.mem_of_getElem? (i := 6) rfl)), List.forall_mem_cons.mpr ⟨lw_inS (p_3 (List.mem_of_getElem? (i := 7) rfl)), List.forall_mem_cons.mpr ⟨lw_inS (p_3 (List.mem_of_getElem? (i := 8) rfl)), List.forall_mem_cons.mpr ⟨lw_inS (p_3 (List.mem_of_getElem? (i := 9) rfl)), List.forall_mem_cons.mpr ⟨lw_inS (p_3 (List.mem_of_getElem? (i := 10) rfl)), List.forall_mem_cons.mpr ⟨lw_inS (p_3 (List.mem_of_getElem? (i := 11) rfl)), List.forall_mem_cons.mpr ⟨lw_inS (p_3 (List.mem_of_getElem? (i := 12) rfl)), List.forall_mem_cons.mpr ⟨lw_inS (p_3 (List.mem_of_getElem? (i := 13) rfl)), List.forall_mem_cons.mpr ⟨lw_inS (p_3 (List.mem_of_getElem? (i := 14) rfl)), List.forall_mem_cons.mpr ⟨lw_inS (p_3 (List.mem_of_getElem? (i := 15) rfl)), List.forall_mem_cons.mpr ⟨lw_inS (p_3 (List.mem_of_getElem? (i := 16) rfl)), List.forall_mem_cons.mpr ⟨lw_inS (p_3 (List.mem_of_getElem? (i := 17) rfl)), List.forall_mem_cons.mpr ⟨lw_inS (p_3 (List.mem_of_getElem? (i := 18) rfl)), List.forall_mem_cons.mpr ⟨lw_inS (p_3 (List.mem_of_getElem? (i := 19) rfl)), List.forall_mem_cons.mpr ⟨lw_inS (p_4 (List.mem_of_getElem? (i := 0) rfl)), List.forall_mem_cons.mpr ⟨lw_inS (p_4 (List.mem_of_getElem? (i := 1) rfl)), List.forall_mem_cons.mpr ⟨lw_inS (p_4 (List.mem_of_getElem? (i := 2) rfl)), List.forall_mem_cons.mpr ⟨lw_inS (p_4 (List.mem_of_getElem? (i := 3) rfl)), List.forall_mem_cons.mpr ⟨lw_inS (p_4 (List.mem_of_getElem? (i := 4) rfl)), List.forall_mem_cons.mpr ⟨lw_inS (p_4 (List.mem_of_getElem? (i := 5) rfl)), List.forall_mem_cons.mpr ⟨lw_inS (p_4 (List.mem_of_getElem? (i := 6) rfl)), List.forall_mem_cons.mpr ⟨lw_inS (p_4 (List.mem_of_getElem? (i := 7) rfl)), List.forall_mem_cons.mpr ⟨lw_inS (p_4 (List.mem_of_getElem? (i := 8) rfl)), List.forall_mem_cons.mpr ⟨lw_inS (p_4 (List.mem_of_getElem? (i := 9) rfl)), List.forall_mem_cons.mpr ⟨lw_inS (p_4 (List.mem_of_getElem? (i := 10) rfl)), List.forall_mem_cons.mpr ⟨lw_inS (p_4 (List.mem_of_getElem? (i := 11) rfl)), List.forall_mem_cons.mpr ⟨lw_inS (p_4 (List.mem_of_getElem? (i := 12) rfl)), List.forall_mem_cons.mpr ⟨lw_inS (p_4 (List.mem_of_getElem? (i := 13) rfl)), List.forall_mem_cons.mpr ⟨lw_inS (p_4 (List.mem_of_getElem? (i := 14) rfl)), List.forall_mem_cons.mpr ⟨lw_inS (p_4 (List.mem_of_getElem? (i := 15) rfl)), List.forall_mem_cons.mpr ⟨lw_inS (p_4 (List.mem_of_getElem? (i := 16) rfl)), List.forall_mem_cons.mpr ⟨lw_inS (p_4 (List.mem_of_getElem? (i := 17) rfl)), List.forall_mem_cons.mpr ⟨lw_inS (p_4 (List.mem_of_getElem? (i := 18) rfl)), List.forall_mem_cons.mpr ⟨lw_inS (p_4 (List.mem_of_getElem? (i := 19) rfl)), List.forall_mem_cons.mpr ⟨lw_inS (p_5 (List.mem_of_getElem? (i := 0) rfl)), List.forall_mem_cons.mpr ⟨lw_inS (p_5 (List.mem_of_getElem? (i := 1) rfl)), List.forall_mem_cons.mpr ⟨lw_inS (p_5 (List.mem_of_getElem? (i := 2) rfl)), List.forall_mem_cons.mpr ⟨lw_inS (p_5 (List.mem_of_getElem? (i := 3) rfl)), List.forall_mem_cons.mpr ⟨lw_inS (p_5 (List.mem_of_getElem? (i := 4) rfl)), List.forall_mem_cons.mpr ⟨lw_inS (p_5 (List.mem_of_getElem? (i := 5) rfl)), List.forall_mem_cons.mpr ⟨lw_inS (p_5 (List.mem_of_getElem? (i := 6) rfl)), List.forall_mem_cons.mpr ⟨lw_inS (p_5 (List.mem_of_getElem? (i := 7) rfl)), List.forall_mem_cons.mpr ⟨lw_inS (p_5 (List.mem_of_getElem? (i := 8) rfl)), List.forall_mem_cons.mpr ⟨lw_inS (p_5 (List.mem_of_getElem? (i := 9) rfl)), List.forall_mem_cons.mpr ⟨lw_inS (p_5 (List.mem_of_getElem? (i := 10) rfl)), List.forall_mem_cons.mpr ⟨lw_inS (p_5 (List.mem_of_getElem? (i := 11) rfl)), List.forall_mem_cons.mpr ⟨lw_inS (p_5 (List.mem_of_getElem? (i := 12) rfl)), List.forall_mem_cons.mpr ⟨lw_inT (q_1 (List.mem_of_getElem? (i := 0) rfl)), List.forall_mem_cons.mpr ⟨lw_inT (q_1 (List.mem_of_getElem? (i := 1) rfl)), List.forall_mem_cons.mpr ⟨lw_inT (q_1 (List.mem_of_getElem? (i := 2) rfl)), List.forall_mem_cons.mpr ⟨lw_inT (q_1 (List.mem_of_getElem? (i := 3) rfl)), List.forall_mem_cons.mpr ⟨lw_inT (q_1 (List.mem_of_getElem? (i := 4) rfl)), List.forall_mem_cons.mpr ⟨lw_inT (q_1 (List.mem_of_getElem? (i := 5) rfl)), List.forall_mem_cons.mpr ⟨lw_inT (q_1 (List.mem_of_getElem? (i := 6) rfl)), fun _ h => absurd h List.not_mem_nil⟩⟩⟩⟩⟩⟩⟩⟩⟩⟩⟩⟩⟩⟩⟩⟩⟩⟩⟩⟩⟩⟩⟩⟩⟩⟩⟩⟩⟩⟩⟩⟩⟩⟩⟩⟩⟩⟩⟩⟩⟩⟩⟩⟩⟩⟩⟩⟩⟩⟩⟩⟩⟩⟩⟩⟩⟩⟩⟩⟩
def gx_Ts_2 : List Cond := [w_120, w_121, w_122, w_123, w_124, w_125, w_126, w_127, w_128, w_129, w_130, w_131, w_132, w_133, w_134, w_135, w_136, w_137, w_138, w_139, w_140, w_141, w_142, w_143, w_144, w_145, w_146, w_147, w_148, w_149, w_150, w_151, w_152, w_153, w_154, w_155, w_156, w_157, w_158, w_159, w_160, w_161, w_162, w_163, w_164, w_165, w_166, w_167, w_168, w_169, w_170, w_171, w_172, w_173, w_174, w_175, w_176, w_177, w_178, w_179]
theorem gx_Ts_i2 : ∀ w ∈ gx_Ts_2, w ∈ lw_tbl := List.forall_mem_cons.mpr ⟨lw_inT (q_1 (List.mem_of_getElem? (i := 7) rfl)), List.forall_mem_cons.mpr ⟨lw_inT (q_1 (List.mem_of_getElem? (i := 8) rfl)), List.forall_mem_cons.mpr ⟨lw_inT (q_1 (List.mem_of_getElem? (i := 9) rfl)), List.forall_mem_cons.mpr ⟨lw_inT (q_1 (List.mem_of_getElem? (i := 10) rfl)), List.forall_mem_cons.mpr ⟨lw_inT (q_1 (List.mem_of_getElem? (i := 11) rfl)), List.forall_mem_cons.mpr ⟨lw_inT (q_1 (List.mem_of_getElem? (i := 12) rfl)), List.forall_mem_cons.mpr ⟨lw_inT (q_1 (List.mem_of_getElem? (i := 13) rfl)), List.forall_mem_cons.mpr ⟨lw_inT (q_1 (List.mem_of_getElem? (i := 14) rfl)), List.forall_mem_cons.mpr ⟨lw_inT (q_1 (List.mem_of_getElem? (i := 15) rfl)), List.forall_mem_cons.mpr ⟨lw_inT (q_1 (List.mem_of_getElem? (i := 16) rfl)), List.forall_mem_cons.mpr ⟨lw_inT (q_1 (List.mem_of_getElem? (i := 17) rfl)), List.forall_mem_cons.mpr ⟨lw_inT (q_1 (List.mem_of_getElem? (i := 18) rfl)), List.forall_mem_cons.mpr ⟨lw_inT (q_1 (List.mem_of_getElem? (i := 19) rfl)), List.forall_mem_cons.mpr ⟨lw_inT (q_1 (List.mem_of_getElem? (i := 20) rfl)), List.forall_mem_cons.mpr ⟨lw_inT (q_1 (List.mem_of_getElem? (i := 21) rfl)), List.forall_mem_cons.mpr ⟨lw_inT (q_1 (List.mem_of_getElem? (i := 22) rfl)), List.forall_mem_cons.mpr ⟨lw_inT (q_1 (List.mem_of_getElem? (i := 23) rfl)), List.forall_mem_cons.mpr ⟨lw_inT (q_1 (List.mem_of_getElem? (i := 24) rfl)), List.forall_mem_cons.mpr ⟨lw_inT (q_1 (List.mem_of_getElem? (i := 25) rfl)), List.forall_mem_cons.mpr ⟨lw_inT (q_1 (List.mem_of_getElem? (i := 26) rfl)), List.forall_mem_cons.mpr ⟨lw_inT (q_1 (List.mem_of_getElem? (i := 28) rfl)), List.forall_mem_cons.mpr ⟨lw_inT (q_1 (List.mem_of_getElem? (i := 29) rfl)), List.forall_mem_cons.mpr ⟨lw_inT (q_1 (List.mem_of_getElem? (i := 30) rfl)), List.forall_mem_cons.mpr ⟨lw_inT (q_1 (List.mem_of_getElem? (i := 31) rfl)), List.forall_mem_cons.mpr ⟨lw_inT (q_1 (List.mem_of_getElem? (i := 33) rfl)), List.forall_mem_cons.mpr ⟨lw_inT (q_1 (List.mem_of_getElem? (i := 34) rfl)), List.forall_mem_cons.mpr ⟨lw_inT (q_1 (List.mem_of_getElem? (i := 35) rfl)), List.forall_mem_cons.mpr ⟨lw_inT (q_1 (List.mem_of_getElem? (i := 36) rfl)), List.forall_mem_cons.mpr ⟨lw_inT (q_1 (List.mem_of_getElem? (i := 37) rfl)), List.forall_mem_cons.mpr ⟨lw_inT (q_1 (List.mem_of_getElem? (i := 38) rfl)), List.forall_mem_cons.mpr ⟨lw_inT (q_1 (List.mem_of_getElem? (i := 39) rfl)), List.forall_mem_cons.mpr ⟨lw_inT (q_1 (List.mem_of_getElem? (i := 40) rfl)), List.forall_mem_cons.mpr ⟨lw_inT (q_1 (List.mem_of_getElem? (i := 41) rfl)), List.forall_mem_cons.mpr ⟨lw_inT (q_1 (List.mem_of_getElem? (i := 42) rfl)), List.forall_mem_cons.mpr ⟨lw_inT (q_1 (List.mem_of_getElem? (i := 43) rfl)), List.forall_mem_cons.mpr ⟨lw_inT (q_1 (List.mem_of_getElem? (i := 44) rfl)), List.forall_mem_cons.mpr ⟨lw_inT (q_1 (List.mem_of_getElem? (i := 45) rfl)), List.forall_mem_cons.mpr ⟨lw_inT (q_1 (List.mem_of_getElem? (i := 46) rfl)), List.forall_mem_cons.mpr ⟨lw_inT (q_1 (List.mem_of_getElem? (i := 47) rfl)), List.forall_mem_cons.mpr ⟨lw_inT (q_1 (List.mem_of_getElem? (i := 48) rfl)), List.forall_mem_cons.mpr ⟨lw_inT (q_1 (List.mem_of_getElem? (i := 49) rfl)), List.forall_mem_cons.mpr ⟨lw_inT (q_1 (List.mem_of_getElem? (i := 50) rfl)), List.forall_mem_cons.mpr ⟨lw_inT (q_1 (List.mem_of_getElem? (i := 51) rfl)), List.forall_mem_cons.mpr ⟨lw_inT (q_1 (List.mem_of_getElem? (i := 52) rfl)), List.forall_mem_cons.mpr ⟨lw_inT (q_1 (List.mem_of_getElem? (i := 54) rfl)), List.forall_mem_cons.mpr ⟨lw_inT (q_1 (List.mem_of_getElem? (i := 56) rfl)), List.forall_mem_cons.mpr ⟨lw_inT (q_1 (List.mem_of_getElem? (i := 58) rfl)), List.forall_mem_cons.mpr ⟨lw_inT (q_1 (List.mem_of_getElem? (i := 60) rfl)), List.forall_mem_cons.mpr ⟨lw_inT (q_1 (List.mem_of_getElem? (i := 62) rfl)), List.forall_mem_cons.mpr ⟨lw_inT (q_1 (List.mem_of_getElem? (i := 64) rfl)), List.forall_mem_cons.mpr ⟨lw_inT (q_1 (List.mem_of_getElem? (i := 66) rfl)), List.forall_mem_cons.mpr ⟨lw_inT (q_1 (List.mem_of_getElem? (i := 68) rfl)), List.forall_mem_cons.mpr ⟨lw_inT (q_1 (List.mem_of_getElem? (i := 70) rfl)), List.forall_mem_cons.mpr ⟨lw_inT (q_1 (List.mem_of_getElem? (i := 72) rfl)), List.forall_mem_cons.mpr ⟨lw_inT (q_1 (List.mem_of_getElem? (i := 74) rfl)), List.forall_mem_cons.mpr ⟨lw_inT (q_1 (List.mem_of_getElem? (i := 76) rfl)), List.forall_mem_cons.mpr ⟨lw_inT (q_1 (List.mem_of_getElem? (i := 78) rfl)), List.forall_mem_cons.mpr ⟨lw_inT (q_1 (List.mem_of_getElem? (i := 80) rfl)), List.forall_mem_cons.mpr ⟨lw_inT (q_1 (List.mem_of_getElem? (i := 82) rfl)), List.forall_mem_cons.mpr ⟨lw_inT (q_1 (List.mem_of_getElem? (i := 84) rfl)), fun _ h => absurd h List.not_mem_nil⟩⟩⟩⟩⟩⟩⟩⟩⟩⟩⟩⟩⟩⟩⟩⟩⟩⟩⟩⟩⟩⟩⟩⟩⟩⟩⟩⟩⟩⟩⟩⟩⟩⟩⟩⟩⟩⟩⟩⟩⟩⟩⟩⟩⟩⟩⟩⟩⟩⟩⟩⟩⟩⟩⟩⟩⟩⟩⟩⟩
def gx_Ts_3 : List Cond := [w_180, w_181, w_182, w_183, w_184, w_185, w_186, w_187, w_188, w_189, w_190, w_191, w_192, w_193, w_194, w_195, w_196, w_197, w_198, w_199, w_200, w_201, w_202, w_203, w_204, w_205, w_206, w_207, w_208, w_209, w_210, w_211, w_212, w_213, w_214, w_215, w_216, w_217, w_218, w_219, w_220, w_221, w_222, w_223, w_224, w_225, w_226, w_227, w_228, w_229, w_230, w_231, w_232, w_233, w_234, w_235, w_236, w_237, w_238, w_239]
theorem gx_Ts_i3 : ∀ w ∈ gx_Ts_3, w ∈ lw_tbl := List.forall_mem_cons.mpr ⟨lw_inT (q_1 (List.mem_of_getElem? (i := 87) rfl)), List.forall_mem_cons.mpr ⟨lw_inT (q_1 (List.mem_of_getElem? (i := 88) rfl)), List.forall_mem_cons.mpr ⟨lw_inT (q_1 (List.mem_of_getElem? (i := 89) rfl)), List.forall_mem_cons.mpr ⟨lw_inT (q_1 (List.mem_of_getElem? (i := 90) rfl)), List.forall_mem_cons.mpr ⟨lw_inT (q_1 (List.mem_of_getElem? (i := 92) rfl)), List.forall_mem_cons.mpr ⟨lw_inT (q_1 (List.mem_of_getElem? (i := 93) rfl)), List.forall_mem_cons.mpr ⟨lw_inT (q_1 (List.mem_of_getElem? (i := 94) rfl)), List.forall_mem_cons.mpr ⟨lw_inT (q_1 (List.mem_of_getElem? (i := 95) rfl)), List.forall_mem_cons.mpr ⟨lw_inT (q_1 (List.mem_of_getElem? (i := 96) rfl)), List.forall_mem_cons.mpr ⟨lw_inT (q_1 (List.mem_of_getElem? (i := 97) rfl)), List.forall_mem_cons.mpr ⟨lw_inT (q_1 (List.mem_of_getElem? (i := 98) rfl)), List.forall_mem_cons.mpr ⟨lw_inT (q_1 (List.mem_of_getElem? (i := 99) rfl)), List.forall_mem_cons.mpr ⟨lw_inT (q_1 (List.mem_of_getElem? (i := 100) rfl)), List.forall_mem_cons.mpr ⟨lw_inT (q_1 (List.mem_of_getElem? (i := 101) rfl)), List.forall_mem_cons.mpr ⟨lw_inT (q_1 (List.mem_of_getElem? (i := 102) rfl)), List.forall_mem_cons.mpr ⟨lw_inT (q_1 (List.mem_of_getElem? (i := 103) rfl)), List.forall_mem_cons.mpr ⟨lw_inT (q_1 (List.mem_of_getElem? (i := 104) rfl)), List.forall_mem_cons.mpr ⟨lw_inT (q_1 (List.mem_of_getElem? (i := 105) rfl)), List.forall_mem_cons.mpr ⟨lw_inT (q_1 (List.mem_of_getElem? (i := 106) rfl)), List.forall_mem_cons.mpr ⟨lw_inT (q_1 (List.mem_of_getElem? (i := 107) rfl)), List.forall_mem_cons.mpr ⟨lw_inT (q_1 (List.mem_of_getElem? (i := 108) rfl)), List.forall_mem_cons.mpr ⟨lw_inT (q_1 (List.mem_of_getElem? (i := 110) rfl)), List.forall_mem_cons.mpr ⟨lw_inT (q_1 (List.mem_of_getElem? (i := 112) rfl)), List.forall_mem_cons.mpr ⟨lw_inT (q_1 (List.mem_of_getElem? (i := 114) rfl)), List.forall_mem_cons.mpr ⟨lw_inT (q_1 (List.mem_of_getElem? (i := 116) rfl)), List.forall_mem_cons.mpr ⟨lw_inT (q_1 (List.mem_of_getElem? (i := 118) rfl)), List.forall_mem_cons.mpr ⟨lw_inT (q_1 (List.mem_of_getElem? (i := 120) rfl)), List.forall_mem_cons.mpr ⟨lw_inT (q_1 (List.mem_of_getElem? (i := 122) rfl)), List.forall_mem_cons.mpr ⟨lw_inT (q_1 (List.mem_of_getElem? (i := 124) rfl)), List.forall_mem_cons.mpr ⟨lw_inT (q_1 (List.mem_of_getElem? (i := 127) rfl)), List.forall_mem_cons.mpr ⟨lw_inT (q_1 (List.mem_of_getElem? (i := 128) rfl)), List.forall_mem_cons.mpr ⟨lw_inT (q_1 (List.mem_of_getElem? (i := 130) rfl)), List.forall_mem_cons.mpr ⟨lw_inT (q_1 (List.mem_of_getElem? (i := 131) rfl)), List.forall_mem_cons.mpr ⟨lw_inT (q_1 (List.mem_of_getElem? (i := 132) rfl)), List.forall_mem_cons.mpr ⟨lw_inT (q_1 (List.mem_of_getElem? (i := 133) rfl)), List.forall_mem_cons.mpr ⟨lw_inT (q_1 (List.mem_of_getElem? (i := 135) rfl)), List.forall_mem_cons.mpr ⟨lw_inT (q_1 (List.mem_of_getElem? (i := 136) rfl)), List.forall_mem_cons.mpr ⟨lw_inT (q_1 (List.mem_of_getElem? (i := 137) rfl)), List.forall_mem_cons.mpr ⟨lw_inT (q_1 (List.mem_of_getElem? (i := 138) rfl)), List.forall_mem_cons.mpr ⟨lw_inT (q_1 (List.mem_of_getElem? (i := 139) rfl)), List.forall_mem_cons.mpr ⟨lw_inT (q_1 (List.mem_of_getElem? (i := 140) rfl)), List.forall_mem_cons.mpr ⟨lw_inT (q_1 (List.mem_of_getElem? (i := 141) rfl)), List.forall_mem_cons.mpr ⟨lw_inT (q_1 (List.mem_of_getElem? (i := 142) rfl)), List.forall_mem_cons.mpr ⟨lw_inT (q_1 (List.mem_of_getElem? (i := 143) rfl)), List.forall_mem_cons.mpr ⟨lw_inT (q_1 (List.mem_of_getElem? (i := 144) rfl)), List.forall_mem_cons.mpr ⟨lw_inT (q_1 (List.mem_of_getElem? (i := 145) rfl)), List.forall_mem_cons.mpr ⟨lw_inT (q_1 (List.mem_of_getElem? (i := 146) rfl)), List.forall_mem_cons.mpr ⟨lw_inT (q_1 (List.mem_of_getElem? (i := 147) rfl)), List.forall_mem_cons.mpr ⟨lw_inT (q_1 (List.mem_of_getElem? (i := 148) rfl)), List.forall_mem_cons.mpr ⟨lw_inT (q_1 (List.mem_of_getElem? (i := 149) rfl)), List.forall_mem_cons.mpr ⟨lw_inT (q_1 (List.mem_of_getElem? (i := 151) rfl)), List.forall_mem_cons.mpr ⟨lw_inT (q_1 (List.mem_of_getElem? (i := 153) rfl)), List.forall_mem_cons.mpr ⟨lw_inT (q_1 (List.mem_of_getElem? (i := 155) rfl)), List.forall_mem_cons.mpr ⟨lw_inT (q_1 (List.mem_of_getElem? (i := 157) rfl)), List.forall_mem_cons.mpr ⟨lw_inT (q_1 (List.mem_of_getElem? (i := 159) rfl)), List.forall_mem_cons.mpr ⟨lw_inT (q_1 (List.mem_of_getElem? (i := 161) rfl)), List.forall_mem_cons.mpr ⟨lw_inT (q_1 (List.mem_of_getElem? (i := 163) rfl)), List.forall_mem_cons.mpr ⟨lw_inT (q_1 (List.mem_of_getElem? (i := 165) rfl)), List.forall_mem_cons.mpr ⟨lw_inT (q_1 (List.mem_of_getElem? (i := 167) rfl)), List.forall_mem_cons.mpr ⟨lw_inT (q_1 (List.mem_of_getElem? (i := 169) rfl)), fun _ h => absurd h List.not_mem_nil⟩⟩⟩⟩⟩⟩⟩⟩⟩⟩⟩⟩⟩⟩⟩⟩⟩⟩⟩⟩⟩⟩⟩⟩⟩⟩⟩⟩⟩⟩⟩⟩⟩⟩⟩⟩⟩⟩⟩⟩⟩⟩⟩⟩⟩⟩⟩⟩⟩⟩⟩⟩⟩⟩⟩⟩⟩⟩⟩⟩
def gx_Ts_4 : List Cond := [w_240, w_241, w_242, w_243, w_244, w_245, w_246, w_247, w_248, w_249, w_250, w_251, w_252, w_253, w_254, w_255, w_256, w_257, w_258, w_259, w_260, w_261, w_262, w_263, w_264, w_265, w_266, w_267, w_268, w_269, w_270, w_271, w_272, w_273, w_274, w_275, w_276, w_277, w_278, w_279, w_280, w_281, w_282, w_283, w_284, w_285, w_286, w_287, w_288, w_289, w_290, w_291, w_292, w_293, w_294, w_295, w_296, w_297, w_298, w_299]
theorem gx_Ts_i4 : ∀ w ∈ gx_Ts_4, w ∈ lw_tbl := List.forall_mem_cons.mpr ⟨lw_inT (q_1 (List.mem_of_getElem? (i := 171) rfl)), List.forall_mem_cons.mpr ⟨lw_inT (q_1 (List.mem_of_getElem? (i := 173) rfl)), List.forall_mem_cons.mpr ⟨lw_inT (q_1 (List.mem_of_getElem? (i := 175) rfl)), List.forall_mem_cons.mpr ⟨lw_inT (q_1 (List.mem_of_getElem? (i := 178) rfl)), List.forall_mem_cons.mpr ⟨lw_inT (q_1 (List.mem_of_getElem? (i := 179) rfl)), List.forall_mem_cons.mpr ⟨lw_inT (q_1 (List.mem_of_getElem? (i := 181) rfl)), List.forall_mem_cons.mpr ⟨lw_inT (q_1 (List.mem_of_getElem? (i := 182) rfl)), List.forall_mem_cons.mpr ⟨lw_inT (q_1 (List.mem_of_getElem? (i := 183) rfl)), List.forall_mem_cons.mpr ⟨lw_inT (q_1 (List.mem_of_getElem? (i := 184) rfl)), List.forall_mem_cons.mpr ⟨lw_inT (q_1 (List.mem_of_getElem? (i := 185) rfl)), List.forall_mem_cons.mpr ⟨lw_inT (q_1 (List.mem_of_getElem? (i := 186) rfl)), List.forall_mem_cons.mpr ⟨lw_inT (q_1 (List.mem_of_getElem? (i := 187) rfl)), List.forall_mem_cons.mpr ⟨lw_inT (q_1 (List.mem_of_getElem? (i := 188) rfl)), List.forall_mem_cons.mpr ⟨lw_inT (q_1 (List.mem_of_getElem? (i := 189) rfl)), List.forall_mem_cons.mpr ⟨lw_inT (q_1 (List.mem_of_getElem? (i := 190) rfl)), List.forall_mem_cons.mpr ⟨lw_inT (q_1 (List.mem_of_getElem? (i := 192) rfl)), List.forall_mem_cons.mpr ⟨lw_inT (q_1 (List.mem_of_getElem? (i := 194) rfl)), List.forall_mem_cons.mpr ⟨lw_inT (q_1 (List.mem_of_getElem? (i := 196) rfl)), List.forall_mem_cons.mpr ⟨lw_inT (q_1 (List.mem_of_getElem? (i := 198) rfl)), List.forall_mem_cons.mpr ⟨lw_inT (q_1 (List.mem_of_getElem? (i := 200) rfl)), List.forall_mem_cons.mpr ⟨lw_inT (q_1 (List.mem_of_getElem? (i := 202) rfl)), List.forall_mem_cons.mpr ⟨lw_inT (q_1 (List.mem_of_getElem? (i := 204) rfl)), List.forall_mem_cons.mpr ⟨lw_inT (q_1 (List.mem_of_getElem? (i := 206) rfl)), List.forall_mem_cons.mpr ⟨lw_inT (q_1 (List.mem_of_getElem? (i := 209) rfl)), List.forall_mem_cons.mpr ⟨lw_inT (q_1 (List.mem_of_getElem? (i := 210) rfl)), List.forall_mem_cons.mpr ⟨lw_inT (q_1 (List.mem_of_getElem? (i := 211) rfl)), List.forall_mem_cons.mpr ⟨lw_inT (q_1 (List.mem_of_getElem? (i := 212) rfl)), List.forall_mem_cons.mpr ⟨lw_inT (q_1 (List.mem_of_getElem? (i := 213) rfl)), List.forall_mem_cons.mpr ⟨lw_inT (q_1 (List.mem_of_getElem? (i := 214) rfl)), List.forall_mem_cons.mpr ⟨lw_inT (q_1 (List.mem_of_getElem? (i := 215) rfl)), List.forall_mem_cons.mpr ⟨lw_inT (q_1 (List.mem_of_getElem? (i := 216) rfl)), List.forall_mem_cons.mpr ⟨lw_inT (q_1 (List.mem_of_getElem? (i := 217) rfl)), List.forall_mem_cons.mpr ⟨lw_inT (q_1 (List.mem_of_getElem? (i := 218) rfl)), List.forall_mem_cons.mpr ⟨lw_inT (q_1 (List.mem_of_getElem? (i := 219) rfl)), List.forall_mem_cons.mpr ⟨lw_inT (q_1 (List.mem_of_getElem? (i := 220) rfl)), List.forall_mem_cons.mpr ⟨lw_inT (q_1 (List.mem_of_getElem? (i := 221) rfl)), List.forall_mem_cons.mpr ⟨lw_inT (q_1 (List.mem_of_getElem? (i := 222) rfl)), List.forall_mem_cons.mpr ⟨lw_inT (q_1 (List.mem_of_getElem? (i := 223) rfl)), List.forall_mem_cons.mpr ⟨lw_inT (q_1 (List.mem_of_getElem? (i := 224) rfl)), List.forall_mem_cons.mpr ⟨lw_inT (q_1 (List.mem_of_getElem? (i := 225) rfl)), List.forall_mem_cons.mpr ⟨lw_inT (q_1 (List.mem_of_getElem? (i := 226) rfl)), List.forall_mem_cons.mpr ⟨lw_inT (q_1 (List.mem_of_getElem? (i := 227) rfl)), List.forall_mem_cons.mpr ⟨lw_inT (q_1 (List.mem_of_getElem? (i := 228) rfl)), List.forall_mem_cons.mpr ⟨lw_inT (q_1 (List.mem_of_getElem? (i := 229) rfl)), List.forall_mem_cons.mpr ⟨lw_inT (q_1 (List.mem_of_getElem? (i := 230) rfl)), List.forall_mem_cons.mpr ⟨lw_inT (q_1 (List.mem_of_getElem? (i := 231) rfl)), List.forall_mem_cons.mpr ⟨lw_inT (q_1 (List.mem_of_getElem? (i := 232) rfl)), List.forall_mem_cons.mpr ⟨lw_inT (q_1 (List.mem_of_getElem? (i := 234) rfl)), List.forall_mem_cons.mpr ⟨lw_inT (q_1 (List.mem_of_getElem? (i := 235) rfl)), List.forall_mem_cons.mpr ⟨lw_inT (q_1 (List.mem_of_getElem? (i := 236) rfl)), List.forall_mem_cons.mpr ⟨lw_inT (q_1 (List.mem_of_getElem? (i := 237) rfl)), List.forall_mem_cons.mpr ⟨lw_inT (q_1 (List.mem_of_getElem? (i := 238) rfl)), List.forall_mem_cons.mpr ⟨lw_inT (q_1 (List.mem_of_getElem? (i := 239) rfl)), List.forall_mem_cons.mpr ⟨lw_inT (q_2 (List.mem_of_getElem? (i := 0) rfl)), List.forall_mem_cons.mpr ⟨lw_inT (q_2 (List.mem_of_getElem? (i := 2) rfl)), List.forall_mem_cons.mpr ⟨lw_inT (q_2 (List.mem_of_getElem? (i := 3) rfl)), List.forall_mem_cons.mpr ⟨lw_inT (q_2 (List.mem_of_getElem? (i := 4) rfl)), List.forall_mem_cons.mpr ⟨lw_inT (q_2 (List.mem_of_getElem? (i := 5) rfl)), List.forall_mem_cons.mpr ⟨lw_inT (q_2 (List.mem_of_getElem? (i := 6) rfl)), List.forall_mem_cons.mpr ⟨lw_inT (q_2 (List.mem_of_getElem? (i := 7) rfl)), fun _ h => absurd h List.not_mem_nil⟩⟩⟩⟩⟩⟩⟩⟩⟩⟩⟩⟩⟩⟩⟩⟩⟩⟩⟩⟩⟩⟩⟩⟩⟩⟩⟩⟩⟩⟩⟩⟩⟩⟩⟩⟩⟩⟩⟩⟩⟩⟩⟩⟩⟩⟩⟩⟩⟩⟩⟩⟩⟩⟩⟩⟩⟩⟩⟩⟩
def gx_Ts_5 : List Cond := [w_300, w_301, w_302, w_303, w_304, w_305, w_306, w_307, w_308, w_309, w_310, w_311, w_312, w_313, w_314, w_315, w_316, w_317, w_318, w_319, w_320, w_321, w_322, w_323, w_324, w_325, w_326, w_327, w_328, w_329, w_330, w_331, w_332, w_333, w_334, w_335, w_336, w_337, w_338, w_339, w_340, w_341, w_342, w_343, w_344, w_345, w_346, w_347, w_348, w_349, w_350, w_351, w_352, w_353, w_354, w_355, w_356, w_357, w_358, w_359]
theorem gx_Ts_i5 : ∀ w ∈ gx_Ts_5, w ∈ lw_tbl := List.forall_mem_cons.mpr ⟨lw_inT (q_2 (List.mem_of_getElem? (i := 8) rfl)), List.forall_mem_cons.mpr ⟨lw_inT (q_2 (List.mem_of_getElem? (i := 9) rfl)), List.forall_mem_cons.mpr ⟨lw_inT (q_2 (List.mem_of_getElem? (i := 10) rfl)), List.forall_mem_cons.mpr ⟨lw_inT (q_2 (List.mem_of_getElem? (i := 11) rfl)), List.forall_mem_cons.mpr ⟨lw_inT (q_2 (List.mem_of_getElem? (i := 12) rfl)), List.forall_mem_cons.mpr ⟨lw_inT (q_2 (List.mem_of_getElem? (i := 13) rfl)), List.forall_mem_cons.mpr ⟨lw_inT (q_2 (List.mem_of_getElem? (i := 14) rfl)), List.forall_mem_cons.mpr ⟨lw_inT (q_2 (List.mem_of_getElem? (i := 15) rfl)), List.forall_mem_cons.mpr ⟨lw_inT (q_2 (List.mem_of_getElem? (i := 16) rfl)), List.forall_mem_cons.mpr ⟨lw_inT (q_2 (List.mem_of_getElem? (i := 17) rfl)), List.forall_mem_cons.mpr ⟨lw_inT (q_2 (List.mem_of_getElem? (i := 18) rfl)), List.forall_mem_cons.mpr ⟨lw_inT (q_2 (List.mem_of_getElem? (i := 19) rfl)), List.forall_mem_cons.mpr ⟨lw_inT (q_2 (List.mem_of_getElem? (i := 20) rfl)), List.forall_mem_cons.mpr ⟨lw_inT (q_2 (List.mem_of_getElem? (i := 21) rfl)), List.forall_mem_cons.mpr ⟨lw_inT (q_2 (List.mem_of_getElem? (i := 22) rfl)), List.forall_mem_cons.mpr ⟨lw_inT (q_2 (List.mem_of_getElem? (i := 24) rfl)), List.forall_mem_cons.mpr ⟨lw_inT (q_2 (List.mem_of_getElem? (i := 26) rfl)), List.forall_mem_cons.mpr ⟨lw_inT (q_2 (List.mem_of_getElem? (i := 28) rfl)), List.forall_mem_cons.mpr ⟨lw_inT (q_2 (List.mem_of_getElem? (i := 31) rfl)), List.forall_mem_cons.mpr ⟨lw_inT (q_2 (List.mem_of_getElem? (i := 32) rfl)), List.forall_mem_cons.mpr ⟨lw_inT (q_2 (List.mem_of_getElem? (i := 33) rfl)), List.forall_mem_cons.mpr ⟨lw_inT (q_2 (List.mem_of_getElem? (i := 34) rfl)), List.forall_mem_cons.mpr ⟨lw_inT (q_2 (List.mem_of_getElem? (i := 35) rfl)), List.forall_mem_cons.mpr ⟨lw_inT (q_2 (List.mem_of_getElem? (i := 37) rfl)), List.forall_mem_cons.mpr ⟨lw_inT (q_2 (List.mem_of_getElem? (i := 38) rfl)), List.forall_mem_cons.mpr ⟨lw_inT (q_2 (List.mem_of_getElem? (i := 39) rfl)), List.forall_mem_cons.mpr ⟨lw_inT (q_2 (List.mem_of_getElem? (i := 40) rfl)), List.forall_mem_cons.mpr ⟨lw_inT (q_2 (List.mem_of_getElem? (i := 41) rfl)), List.forall_mem_cons.mpr ⟨lw_inT (q_2 (List.mem_of_getElem? (i := 42) rfl)), List.forall_mem_cons.mpr ⟨lw_inT (q_2 (List.mem_of_getElem? (i := 43) rfl)), List.forall_mem_cons.mpr ⟨lw_inT (q_2 (List.mem_of_getElem? (i := 44) rfl)), List.forall_mem_cons.mpr ⟨lw_inT (q_2 (List.mem_of_getElem? (i := 45) rfl)), List.forall_mem_cons.mpr ⟨lw_inT (q_2 (List.mem_of_getElem? (i := 46) rfl)), List.forall_mem_cons.mpr ⟨lw_inT (q_2 (List.mem_of_getElem? (i := 47) rfl)), List.forall_mem_cons.mpr ⟨lw_inT (q_2 (List.mem_of_getElem? (i := 48) rfl)), List.forall_mem_cons.mpr ⟨lw_inT (q_2 (List.mem_of_getElem? (i := 49) rfl)), List.forall_mem_cons.mpr ⟨lw_inT (q_2 (List.mem_of_getElem? (i := 50) rfl)), List.forall_mem_cons.mpr ⟨lw_inT (q_2 (List.mem_of_getElem? (i := 51) rfl)), List.forall_mem_cons.mpr ⟨lw_inT (q_2 (List.mem_of_getElem? (i := 52) rfl)), List.forall_mem_cons.mpr ⟨lw_inT (q_2 (List.mem_of_getElem? (i := 54) rfl)), List.forall_mem_cons.mpr ⟨lw_inT (q_2 (List.mem_of_getElem? (i := 55) rfl)), List.forall_mem_cons.mpr ⟨lw_inT (q_2 (List.mem_of_getElem? (i := 56) rfl)), List.forall_mem_cons.mpr ⟨lw_inT (q_2 (List.mem_of_getElem? (i := 57) rfl)), List.forall_mem_cons.mpr ⟨lw_inT (q_2 (List.mem_of_getElem? (i := 58) rfl)), List.forall_mem_cons.mpr ⟨lw_inT (q_2 (List.mem_of_getElem? (i := 59) rfl)), List.forall_mem_cons.mpr ⟨lw_inT (q_2 (List.mem_of_getElem? (i := 60) rfl)), List.forall_mem_cons.mpr ⟨lw_inT (q_2 (List.mem_of_getElem? (i := 62) rfl)), List.forall_mem_cons.mpr ⟨lw_inT (q_2 (List.mem_of_getElem? (i := 63) rfl)), List.forall_mem_cons.mpr ⟨lw_inT (q_2 (List.mem_of_getElem? (i := 64) rfl)), List.forall_mem_cons.mpr ⟨lw_inT (q_2 (List.mem_of_getElem? (i := 65) rfl)), List.forall_mem_cons.mpr ⟨lw_inT (q_2 (List.mem_of_getElem? (i := 66) rfl)), List.forall_mem_cons.mpr ⟨lw_inT (q_2 (List.mem_of_getElem? (i := 67) rfl)), List.forall_mem_cons.mpr ⟨lw_inT (q_2 (List.mem_of_getElem? (i := 68) rfl)), List.forall_mem_cons.mpr ⟨lw_inT (q_2 (List.mem_of_getElem? (i := 69) rfl)), List.forall_mem_cons.mpr ⟨lw_inT (q_2 (List.mem_of_getElem? (i := 70) rfl)), List.forall_mem_cons.mpr ⟨lw_inT (q_2 (List.mem_of_getElem? (i := 72) rfl)), List.forall_mem_cons.mpr ⟨lw_inT (q_2 (List.mem_of_getElem? (i := 73) rfl)), List.forall_mem_cons.mpr ⟨lw_inT (q_2 (List.mem_of_getElem? (i := 74) rfl)), List.forall_mem_cons.mpr ⟨lw_inT (q_2 (List.mem_of_getElem? (i := 75) rfl)), List.forall_mem_cons.mpr ⟨lw_inT (q_2 (List.mem_of_getElem? (i := 76) rfl)), fun _ h => absurd h List.not_mem_nil⟩⟩⟩⟩⟩⟩⟩⟩⟩⟩⟩⟩⟩⟩⟩⟩⟩⟩⟩⟩⟩⟩⟩⟩⟩⟩⟩⟩⟩⟩⟩⟩⟩⟩⟩⟩⟩⟩⟩⟩⟩⟩⟩⟩⟩⟩⟩⟩⟩⟩⟩⟩⟩⟩⟩⟩⟩⟩⟩⟩
def gx_Ts_6 : List Cond := [w_360, w_361, w_362, w_363, w_364, w_365, w_366, w_367, w_368, w_369, w_370, w_371, w_372, w_373, w_374, w_375, w_376, w_377, w_378, w_379, w_380, w_381, w_382, w_383, w_384, w_385, w_386, w_387, w_388, w_389, w_390, w_391, w_392, w_393, w_394, w_395, w_396, w_397, w_398, w_399, w_400, w_401, w_402, w_403, w_404, w_405, w_406, w_407, w_408, w_409, w_410, w_411, w_412, w_413, w_414, w_415, w_416, w_417, w_418, w_419]
theorem gx_Ts_i6 : ∀ w ∈ gx_Ts_6, w ∈ lw_tbl := List.forall_mem_cons.mpr ⟨lw_inT (q_2 (List.mem_of_getElem? (i := 77) rfl)), List.forall_mem_cons.mpr ⟨lw_inT (q_2 (List.mem_of_getElem? (i := 78) rfl)), List.forall_mem_cons.mpr ⟨lw_inT (q_2 (List.mem_of_getElem? (i := 79) rfl)), List.forall_mem_cons.mpr ⟨lw_inT (q_2 (List.mem_of_getElem? (i := 80) rfl)), List.forall_mem_cons.mpr ⟨lw_inT (q_2 (List.mem_of_getElem? (i := 81) rfl)), List.forall_mem_cons.mpr ⟨lw_inT (q_2 (List.mem_of_getElem? (i := 82) rfl)), List.forall_mem_cons.mpr ⟨lw_inT (q_2 (List.mem_of_getElem? (i := 84) rfl)), List.forall_mem_cons.mpr ⟨lw_inT (q_2 (List.mem_of_getElem? (i := 85) rfl)), List.forall_mem_cons.mpr ⟨lw_inT (q_2 (List.mem_of_getElem? (i := 86) rfl)), List.forall_mem_cons.mpr ⟨lw_inT (q_2 (List.mem_of_getElem? (i := 88) rfl)), List.forall_mem_cons.mpr ⟨lw_inT (q_2 (List.mem_of_getElem? (i := 89) rfl)), List.forall_mem_cons.mpr ⟨lw_inT (q_2 (List.mem_of_getElem? (i := 90) rfl)), List.forall_mem_cons.mpr ⟨lw_inT (q_2 (List.mem_of_getElem? (i := 91) rfl)), List.forall_mem_cons.mpr ⟨lw_inT (q_2 (List.mem_of_getElem? (i := 92) rfl)), List.forall_mem_cons.mpr ⟨lw_inT (q_2 (List.mem_of_getElem? (i := 93) rfl)), List.forall_mem_cons.mpr ⟨lw_inT (q_2 (List.mem_of_getElem? (i := 94) rfl)), List.forall_mem_cons.mpr ⟨lw_inT (q_2 (List.mem_of_getElem? (i := 95) rfl)), List.forall_mem_cons.mpr ⟨lw_inT (q_2 (List.mem_of_getElem? (i := 96) rfl)), List.forall_mem_cons.mpr ⟨lw_inT (q_2 (List.mem_of_getElem? (i := 97) rfl)), List.forall_mem_cons.mpr ⟨lw_inT (q_2 (List.mem_of_getElem? (i := 99) rfl)), List.forall_mem_cons.mpr ⟨lw_inT (q_2 (List.mem_of_getElem? (i := 100) rfl)), List.forall_mem_cons.mpr ⟨lw_inT (q_2 (List.mem_of_getElem? (i := 101) rfl)), List.forall_mem_cons.mpr ⟨lw_inT (q_2 (List.mem_of_getElem? (i := 102) rfl)), List.forall_mem_cons.mpr ⟨lw_inT (q_2 (List.mem_of_getElem? (i := 103) rfl)), List.forall_mem_cons.mpr ⟨lw_inT (q_2 (List.mem_of_getElem? (i := 104) rfl)), List.forall_mem_cons.mpr ⟨lw_inT (q_2 (List.mem_of_getElem? (i := 105) rfl)), List.forall_mem_cons.mpr ⟨lw_inT (q_2 (List.mem_of_getElem? (i := 106) rfl)), List.forall_mem_cons.mpr ⟨lw_inT (q_2 (List.mem_of_getElem? (i := 107) rfl)), List.forall_mem_cons.mpr ⟨lw_inT (q_2 (List.mem_of_getElem? (i := 109) rfl)), List.forall_mem_cons.mpr ⟨lw_inT (q_2 (List.mem_of_getElem? (i := 110) rfl)), List.forall_mem_cons.mpr ⟨lw_inT (q_2 (List.mem_of_getElem? (i := 111) rfl)), List.forall_mem_cons.mpr ⟨lw_inT (q_2 (List.mem_of_getElem? (i := 113) rfl)), List.forall_mem_cons.mpr ⟨lw_inT (q_2 (List.mem_of_getElem? (i := 114) rfl)), List.forall_mem_cons.mpr ⟨lw_inT (q_2 (List.mem_of_getElem? (i := 115) rfl)), List.forall_mem_cons.mpr ⟨lw_inT (q_2 (List.mem_of_getElem? (i := 117) rfl)), List.forall_mem_cons.mpr ⟨lw_inT (q_2 (List.mem_of_getElem? (i := 118) rfl)), List.forall_mem_cons.mpr ⟨lw_inT (q_2 (List.mem_of_getElem? (i := 119) rfl)), List.forall_mem_cons.mpr ⟨lw_inT (q_2 (List.mem_of_getElem? (i := 121) rfl)), List.forall_mem_cons.mpr ⟨lw_inT (q_2 (List.mem_of_getElem? (i := 122) rfl)), List.forall_mem_cons.mpr ⟨lw_inT (q_2 (List.mem_of_getElem? (i := 123) rfl)), List.forall_mem_cons.mpr ⟨lw_inT (q_2 (List.mem_of_getElem? (i := 125) rfl)), List.forall_mem_cons.mpr ⟨lw_inT (q_2 (List.mem_of_getElem? (i := 126) rfl)), List.forall_mem_cons.mpr ⟨lw_inT (q_2 (List.mem_of_getElem? (i := 127) rfl)), List.forall_mem_cons.mpr ⟨lw_inT (q_2 (List.mem_of_getElem? (i := 129) rfl)), List.forall_mem_cons.mpr ⟨lw_inT (q_2 (List.mem_of_getElem? (i := 130) rfl)), List.forall_mem_cons.mpr ⟨lw_inT (q_2 (List.mem_of_getElem? (i := 131) rfl)), List.forall_mem_cons.mpr ⟨lw_inT (q_2 (List.mem_of_getElem? (i := 132) rfl)), List.forall_mem_cons.mpr ⟨lw_inT (q_2 (List.mem_of_getElem? (i := 133) rfl)), List.forall_mem_cons.mpr ⟨lw_inT (q_2 (List.mem_of_getElem? (i := 134) rfl)), List.forall_mem_cons.mpr ⟨lw_inT (q_2 (List.mem_of_getElem? (i := 135) rfl)), List.forall_mem_cons.mpr ⟨lw_inT (q_2 (List.mem_of_getElem? (i := 137) rfl)), List.forall_mem_cons.mpr ⟨lw_inT (q_2 (List.mem_of_getElem? (i := 138) rfl)), List.forall_mem_cons.mpr ⟨lw_inT (q_2 (List.mem_of_getElem? (i := 139) rfl)), List.forall_mem_cons.mpr ⟨lw_inT (q_2 (List.mem_of_getElem? (i := 141) rfl)), List.forall_mem_cons.mpr ⟨lw_inT (q_2 (List.mem_of_getElem? (i := 142) rfl)), List.forall_mem_cons.mpr ⟨lw_inT (q_2 (List.mem_of_getElem? (i := 143) rfl)), List.forall_mem_cons.mpr ⟨lw_inT (q_2 (List.mem_of_getElem? (i := 145) rfl)), List.forall_mem_cons.mpr ⟨lw_inT (q_2 (List.mem_of_getElem? (i := 146) rfl)), List.forall_mem_cons.mpr ⟨lw_inT (q_2 (List.mem_of_getElem? (i := 147) rfl)), List.forall_mem_cons.mpr ⟨lw_inT (q_2 (List.mem_of_getElem? (i := 149) rfl)), fun _ h => absurd h List.not_mem_nil⟩⟩⟩⟩⟩⟩⟩⟩⟩⟩⟩⟩⟩⟩⟩⟩⟩⟩⟩⟩⟩⟩⟩⟩⟩⟩⟩⟩⟩⟩⟩⟩⟩⟩⟩⟩⟩⟩⟩⟩⟩⟩⟩⟩⟩⟩⟩⟩⟩⟩⟩⟩⟩⟩⟩⟩⟩⟩⟩⟩
def gx_Ts_7 : List Cond := [w_420, w_421, w_422, w_423, w_424, w_425, w_426, w_427, w_428, w_429, w_430, w_431, w_432, w_433, w_434, w_435, w_436, w_437, w_438, w_439, w_440, w_441, w_442, w_443, w_444, w_445, w_446, w_447, w_448, w_449, w_450, w_451, w_452, w_453, w_454, w_455, w_456, w_457, w_458, w_459, w_460, w_461, w_462, w_463, w_464, w_465, w_466, w_467, w_468, w_469, w_470, w_471, w_472, w_473, w_474, w_475, w_476, w_477, w_478, w_479]
theorem gx_Ts_i7 : ∀ w ∈ gx_Ts_7, w ∈ lw_tbl := List.forall_mem_cons.mpr ⟨lw_inT (q_2 (List.mem_of_getElem? (i := 150) rfl)), List.forall_mem_cons.mpr ⟨lw_inT (q_2 (List.mem_of_getElem? (i := 151) rfl)), List.forall_mem_cons.mpr ⟨lw_inT (q_2 (List.mem_of_getElem? (i := 153) rfl)), List.forall_mem_cons.mpr ⟨lw_inT (q_2 (List.mem_of_getElem? (i := 154) rfl)), List.forall_mem_cons.mpr ⟨lw_inT (q_2 (List.mem_of_getElem? (i := 155) rfl)), List.forall_mem_cons.mpr ⟨lw_inT (q_2 (List.mem_of_getElem? (i := 157) rfl)), List.forall_mem_cons.mpr ⟨lw_inT (q_2 (List.mem_of_getElem? (i := 158) rfl)), List.forall_mem_cons.mpr ⟨lw_inT (q_2 (List.mem_of_getElem? (i := 159) rfl)), List.forall_mem_cons.mpr ⟨lw_inT (q_2 (List.mem_of_getElem? (i := 161) rfl)), List.forall_mem_cons.mpr ⟨lw_inT (q_2 (List.mem_of_getElem? (i := 162) rfl)), List.forall_mem_cons.mpr ⟨lw_inT (q_2 (List.mem_of_getElem? (i := 163) rfl)), List.forall_mem_cons.mpr ⟨lw_inT (q_2 (List.mem_of_getElem? (i := 165) rfl)), List.forall_mem_cons.mpr ⟨lw_inT (q_2 (List.mem_of_getElem? (i := 166) rfl)), List.forall_mem_cons.mpr ⟨lw_inT (q_2 (List.mem_of_getElem? (i := 167) rfl)), List.forall_mem_cons.mpr ⟨lw_inT (q_2 (List.mem_of_getElem? (i := 168) rfl)), List.forall_mem_cons.mpr ⟨lw_inT (q_2 (List.mem_of_getElem? (i := 169) rfl)), List.forall_mem_cons.mpr ⟨lw_inT (q_2 (List.mem_of_getElem? (i := 170) rfl)), List.forall_mem_cons.mpr ⟨lw_inT (q_2 (List.mem_of_getElem? (i := 171) rfl)), List.forall_mem_cons.mpr ⟨lw_inT (q_2 (List.mem_of_getElem? (i := 172) rfl)), List.forall_mem_cons.mpr ⟨lw_inT (q_2 (List.mem_of_getElem? (i := 173) rfl)), List.forall_mem_cons.mpr ⟨lw_inT (q_2 (List.mem_of_getElem? (i := 174) rfl)), List.forall_mem_cons.mpr ⟨lw_inT (q_2 (List.mem_of_getElem? (i := 175) rfl)), List.forall_mem_cons.mpr ⟨lw_inT (q_2 (List.mem_of_getElem? (i := 176) rfl)), List.forall_mem_cons.mpr ⟨lw_inT (q_2 (List.mem_of_getElem? (i := 177) rfl)), List.forall_mem_cons.mpr ⟨lw_inT (q_2 (List.mem_of_getElem? (i := 178) rfl)), List.forall_mem_cons.mpr ⟨lw_inT (q_2 (List.mem_of_getElem? (i := 179) rfl)), List.forall_mem_cons.mpr ⟨lw_inT (q_2 (List.mem_of_getElem? (i := 180) rfl)), List.forall_mem_cons.mpr ⟨lw_inT (q_2 (List.mem_of_getElem? (i := 181) rfl)), List.forall_mem_cons.mpr ⟨lw_inT (q_2 (List.mem_of_getElem? (i := 182) rfl)), List.forall_mem_cons.mpr ⟨lw_inT (q_2 (List.mem_of_getElem? (i := 183) rfl)), List.forall_mem_cons.mpr ⟨lw_inT (q_2 (List.mem_of_getElem? (i := 184) rfl)), List.forall_mem_cons.mpr ⟨lw_inT (q_2 (List.mem_of_getElem? (i := 185) rfl)), List.forall_mem_cons.mpr ⟨lw_inT (q_2 (List.mem_of_getElem? (i := 186) rfl)), List.forall_mem_cons.mpr ⟨lw_inT (q_2 (List.mem_of_getElem? (i := 187) rfl)), List.forall_mem_cons.mpr ⟨lw_inT (q_2 (List.mem_of_getElem? (i := 188) rfl)), List.forall_mem_cons.mpr ⟨lw_inT (q_2 (List.mem_of_getElem? (i := 189) rfl)), List.forall_mem_cons.mpr ⟨lw_inT (q_2 (List.mem_of_getElem? (i := 190) rfl)), List.forall_mem_cons.mpr ⟨lw_inT (q_2 (List.mem_of_getElem? (i := 191) rfl)), List.forall_mem_cons.mpr ⟨lw_inT (q_2 (List.mem_of_getElem? (i := 192) rfl)), List.forall_mem_cons.mpr ⟨lw_inT (q_2 (List.mem_of_getElem? (i := 193) rfl)), List.forall_mem_cons.mpr ⟨lw_inT (q_2 (List.mem_of_getElem? (i := 194) rfl)), List.forall_mem_cons.mpr ⟨lw_inT (q_2 (List.mem_of_getElem? (i := 195) rfl)), List.forall_mem_cons.mpr ⟨lw_inT (q_2 (List.mem_of_getElem? (i := 196) rfl)), List.forall_mem_cons.mpr ⟨lw_inT (q_2 (List.mem_of_getElem? (i := 197) rfl)), List.forall_mem_cons.mpr ⟨lw_inT (q_2 (List.mem_of_getElem? (i := 198) rfl)), List.forall_mem_cons.mpr ⟨lw_inT (q_2 (List.mem_of_getElem? (i := 199) rfl)), List.forall_mem_cons.mpr ⟨lw_inT (q_2 (List.mem_of_getElem? (i := 200) rfl)), List.forall_mem_cons.mpr ⟨lw_inT (q_2 (List.mem_of_getElem? (i := 201) rfl)), List.forall_mem_cons.mpr ⟨lw_inT (q_2 (List.mem_of_getElem? (i := 202) rfl)), List.forall_mem_cons.mpr ⟨lw_inT (q_2 (List.mem_of_getElem? (i := 203) rfl)), List.forall_mem_cons.mpr ⟨lw_inT (q_2 (List.mem_of_getElem? (i := 204) rfl)), List.forall_mem_cons.mpr ⟨lw_inT (q_2 (List.mem_of_getElem? (i := 205) rfl)), List.forall_mem_cons.mpr ⟨lw_inT (q_2 (List.mem_of_getElem? (i := 206) rfl)), List.forall_mem_cons.mpr ⟨lw_inT (q_2 (List.mem_of_getElem? (i := 208) rfl)), List.forall_mem_cons.mpr ⟨lw_inT (q_2 (List.mem_of_getElem? (i := 209) rfl)), List.forall_mem_cons.mpr ⟨lw_inT (q_2 (List.mem_of_getElem? (i := 210) rfl)), List.forall_mem_cons.mpr ⟨lw_inT (q_2 (List.mem_of_getElem? (i := 211) rfl)), List.forall_mem_cons.mpr ⟨lw_inT (q_2 (List.mem_of_getElem? (i := 213) rfl)), List.forall_mem_cons.mpr ⟨lw_inT (q_2 (List.mem_of_getElem? (i := 214) rfl)), List.forall_mem_cons.mpr ⟨lw_inT (q_2 (List.mem_of_getElem? (i := 215) rfl)), fun _ h => absurd h List.not_mem_nil⟩⟩⟩⟩⟩⟩⟩⟩⟩⟩⟩⟩⟩⟩⟩⟩⟩⟩⟩⟩⟩⟩⟩⟩⟩⟩⟩⟩⟩⟩⟩⟩⟩⟩⟩⟩⟩⟩⟩⟩⟩⟩⟩⟩⟩⟩⟩⟩⟩⟩⟩⟩⟩⟩⟩⟩⟩⟩⟩⟩
def gx_Ts_8 : List Cond := [w_480, w_481, w_482, w_483, w_484, w_485, w_486, w_487, w_488, w_489, w_490, w_491, w_492, w_493, w_494, w_495, w_496, w_497, w_498, w_499, w_500, w_501, w_502, w_503, w_504, w_505, w_506, w_507, w_508, w_509, w_510, w_511, w_512, w_513, w_514, w_515, w_516, w_517, w_518, w_519, w_520, w_521, w_522, w_523, w_524, w_525, w_526, w_527, w_528, w_529, w_530, w_531, w_532, w_533, w_534, w_535, w_536, w_537, w_538, w_539]
theorem gx_Ts_i8 : ∀ w ∈ gx_Ts_8, w ∈ lw_tbl := List.forall_mem_cons.mpr ⟨lw_inT (q_2 (List.mem_of_getElem? (i := 217) rfl)), List.forall_mem_cons.mpr ⟨lw_inT (q_2 (List.mem_of_getElem? (i := 218) rfl)), List.forall_mem_cons.mpr ⟨lw_inT (q_2 (List.mem_of_getElem? (i := 219) rfl)), List.forall_mem_cons.mpr ⟨lw_inT (q_2 (List.mem_of_getElem? (i := 221) rfl)), List.forall_mem_cons.mpr ⟨lw_inT (q_2 (List.mem_of_getElem? (i := 222) rfl)), List.forall_mem_cons.mpr ⟨lw_inT (q_2 (List.mem_of_getElem? (i := 223) rfl)), List.forall_mem_cons.mpr ⟨lw_inT (q_2 (List.mem_of_getElem? (i := 225) rfl)), List.forall_mem_cons.mpr ⟨lw_inT (q_2 (List.mem_of_getElem? (i := 226) rfl)), List.forall_mem_cons.mpr ⟨lw_inT (q_2 (List.mem_of_getElem? (i := 227) rfl)), List.forall_mem_cons.mpr ⟨lw_inT (q_2 (List.mem_of_getElem? (i := 229) rfl)), List.forall_mem_cons.mpr ⟨lw_inT (q_2 (List.mem_of_getElem? (i := 230) rfl)), List.forall_mem_cons.mpr ⟨lw_inT (q_2 (List.mem_of_getElem? (i := 231) rfl)), List.forall_mem_cons.mpr ⟨lw_inT (q_2 (List.mem_of_getElem? (i := 232) rfl)), List.forall_mem_cons.mpr ⟨lw_inT (q_2 (List.mem_of_getElem? (i := 233) rfl)), List.forall_mem_cons.mpr ⟨lw_inT (q_2 (List.mem_of_getElem? (i := 234) rfl)), List.forall_mem_cons.mpr ⟨lw_inT (q_2 (List.mem_of_getElem? (i := 235) rfl)), List.forall_mem_cons.mpr ⟨lw_inT (q_2 (List.mem_of_getElem? (i := 236) rfl)), List.forall_mem_cons.mpr ⟨lw_inT (q_2 (List.mem_of_getElem? (i := 237) rfl)), List.forall_mem_cons.mpr ⟨lw_inT (q_2 (List.mem_of_getElem? (i := 238) rfl)), List.forall_mem_cons.mpr ⟨lw_inT (q_2 (List.mem_of_getElem? (i := 239) rfl)), List.forall_mem_cons.mpr ⟨lw_inT (q_3 (List.mem_of_getElem? (i := 0) rfl)), List.forall_mem_cons.mpr ⟨lw_inT (q_3 (List.mem_of_getElem? (i := 1) rfl)), List.forall_mem_cons.mpr ⟨lw_inT (q_3 (List.mem_of_getElem? (i := 2) rfl)), List.forall_mem_cons.mpr ⟨lw_inT (q_3 (List.mem_of_getElem? (i := 3) rfl)), List.forall_mem_cons.mpr ⟨lw_inT (q_3 (List.mem_of_getElem? (i := 4) rfl)), List.forall_mem_cons.mpr ⟨lw_inT (q_3 (List.mem_of_getElem? (i := 5) rfl)), List.forall_mem_cons.mpr ⟨lw_inT (q_3 (List.mem_of_getElem? (i := 6) rfl)), List.forall_mem_cons.mpr ⟨lw_inT (q_3 (List.mem_of_getElem? (i := 7) rfl)), List.forall_mem_cons.mpr ⟨lw_inT (q_3 (List.mem_of_getElem? (i := 8) rfl)), List.forall_mem_cons.mpr ⟨lw_inT (q_3 (List.mem_of_getElem? (i := 10) rfl)), List.forall_mem_cons.mpr ⟨lw_inT (q_3 (List.mem_of_getElem? (i := 11) rfl)), List.forall_mem_cons.mpr ⟨lw_inT (q_3 (List.mem_of_getElem? (i := 12) rfl)), List.forall_mem_cons.mpr ⟨lw_inT (q_3 (List.mem_of_getElem? (i := 13) rfl)), List.forall_mem_cons.mpr ⟨lw_inT (q_3 (List.mem_of_getElem? (i := 14) rfl)), List.forall_mem_cons.mpr ⟨lw_inT (q_3 (List.mem_of_getElem? (i := 15) rfl)), List.forall_mem_cons.mpr ⟨lw_inT (q_3 (List.mem_of_getElem? (i := 16) rfl)), List.forall_mem_cons.mpr ⟨lw_inT (q_3 (List.mem_of_getElem? (i := 17) rfl)), List.forall_mem_cons.mpr ⟨lw_inT (q_3 (List.mem_of_getElem? (i := 18) rfl)), List.forall_mem_cons.mpr ⟨lw_inT (q_3 (List.mem_of_getElem? (i := 19) rfl)), List.forall_mem_cons.mpr ⟨lw_inT (q_3 (List.mem_of_getElem? (i := 20) rfl)), List.forall_mem_cons.mpr ⟨lw_inT (q_3 (List.mem_of_getElem? (i := 21) rfl)), List.forall_mem_cons.mpr ⟨lw_inT (q_3 (List.mem_of_getElem? (i := 22) rfl)), List.forall_mem_cons.mpr ⟨lw_inT (q_3 (List.mem_of_getElem? (i := 24) rfl)), List.forall_mem_cons.mpr ⟨lw_inT (q_3 (List.mem_of_getElem? (i := 25) rfl)), List.forall_mem_cons.mpr ⟨lw_inT (q_3 (List.mem_of_getElem? (i := 26) rfl)), List.forall_mem_cons.mpr ⟨lw_inT (q_3 (List.mem_of_getElem? (i := 28) rfl)), List.forall_mem_cons.mpr ⟨lw_inT (q_3 (List.mem_of_getElem? (i := 29) rfl)), List.forall_mem_cons.mpr ⟨lw_inT (q_3 (List.mem_of_getElem? (i := 30) rfl)), List.forall_mem_cons.mpr ⟨lw_inT (q_3 (List.mem_of_getElem? (i := 32) rfl)), List.forall_mem_cons.mpr ⟨lw_inT (q_3 (List.mem_of_getElem? (i := 33) rfl)), List.forall_mem_cons.mpr ⟨lw_inT (q_3 (List.mem_of_getElem? (i := 34) rfl)), List.forall_mem_cons.mpr ⟨lw_inT (q_3 (List.mem_of_getElem? (i := 36) rfl)), List.forall_mem_cons.mpr ⟨lw_inT (q_3 (List.mem_of_getElem? (i := 37) rfl)), List.forall_mem_cons.mpr ⟨lw_inT (q_3 (List.mem_of_getElem? (i := 38) rfl)), List.forall_mem_cons.mpr ⟨lw_inT (q_3 (List.mem_of_getElem? (i := 40) rfl)), List.forall_mem_cons.mpr ⟨lw_inT (q_3 (List.mem_of_getElem? (i := 41) rfl)), List.forall_mem_cons.mpr ⟨lw_inT (q_3 (List.mem_of_getElem? (i := 42) rfl)), List.forall_mem_cons.mpr ⟨lw_inT (q_3 (List.mem_of_getElem? (i := 44) rfl)), List.forall_mem_cons.mpr ⟨lw_inT (q_3 (List.mem_of_getElem? (i := 45) rfl)), List.forall_mem_cons.mpr ⟨lw_inT (q_3 (List.mem_of_getElem? (i := 46) rfl)), fun _ h => absurd h List.not_mem_nil⟩⟩⟩⟩⟩⟩⟩⟩⟩⟩⟩⟩⟩⟩⟩⟩⟩⟩⟩⟩⟩⟩⟩⟩⟩⟩⟩⟩⟩⟩⟩⟩⟩⟩⟩⟩⟩⟩⟩⟩⟩⟩⟩⟩⟩⟩⟩⟩⟩⟩⟩⟩⟩⟩⟩⟩⟩⟩⟩⟩
def gx_Ts_9 : List Cond := [w_540, w_541, w_542, w_543, w_544, w_545, w_546, w_547, w_548, w_549, w_550, w_551, w_552, w_553, w_554, w_555, w_556, w_557, w_558, w_559, w_560, w_561, w_562, w_563, w_564, w_565, w_566, w_567, w_568, w_569, w_570, w_571, w_572, w_573, w_574, w_575, w_576, w_577, w_578, w_579, w_580, w_581, w_582, w_583, w_584, w_585, w_586, w_587, w_588, w_589, w_590, w_591, w_592, w_593, w_594, w_595, w_596, w_597, w_598, w_599]
theorem gx_Ts_i9 : ∀ w ∈ gx_Ts_9, w ∈ lw_tbl := List.forall_mem_cons.mpr ⟨lw_inT (q_3 (List.mem_of_getElem? (i := 48) rfl)), List.forall_mem_cons.mpr ⟨lw_inT (q_3 (List.mem_of_getElem? (i := 49) rfl)), List.forall_mem_cons.mpr ⟨lw_inT (q_3 (List.mem_of_getElem? (i := 50) rfl)), List.forall_mem_cons.mpr ⟨lw_inT (q_3 (List.mem_of_getElem? (i := 51) rfl)), List.forall_mem_cons.mpr ⟨lw_inT (q_3 (List.mem_of_getElem? (i := 52) rfl)), List.forall_mem_cons.mpr ⟨lw_inT (q_3 (List.mem_of_getElem? (i := 53) rfl)), List.forall_mem_cons.mpr ⟨lw_inT (q_3 (List.mem_of_getElem? (i := 55) rfl)), List.forall_mem_cons.mpr ⟨lw_inT (q_3 (List.mem_of_getElem? (i := 56) rfl)), List.forall_mem_cons.mpr ⟨lw_inT (q_3 (List.mem_of_getElem? (i := 57) rfl)), List.forall_mem_cons.mpr ⟨lw_inT (q_3 (List.mem_of_getElem? (i := 59) rfl)), List.forall_mem_cons.mpr ⟨lw_inT (q_3 (List.mem_of_getElem? (i := 60) rfl)), List.forall_mem_cons.mpr ⟨lw_inT (q_3 (List.mem_of_getElem? (i := 61) rfl)), List.forall_mem_cons.mpr ⟨lw_inT (q_3 (List.mem_of_getElem? (i := 63) rfl)), List.forall_mem_cons.mpr ⟨lw_inT (q_3 (List.mem_of_getElem? (i := 64) rfl)), List.forall_mem_cons.mpr ⟨lw_inT (q_3 (List.mem_of_getElem? (i := 65) rfl)), List.forall_mem_cons.mpr ⟨lw_inT (q_3 (List.mem_of_getElem? (i := 67) rfl)), List.forall_mem_cons.mpr ⟨lw_inT (q_3 (List.mem_of_getElem? (i := 68) rfl)), List.forall_mem_cons.mpr ⟨lw_inT (q_3 (List.mem_of_getElem? (i := 69) rfl)), List.forall_mem_cons.mpr ⟨lw_inT (q_3 (List.mem_of_getElem? (i := 71) rfl)), List.forall_mem_cons.mpr ⟨lw_inT (q_3 (List.mem_of_getElem? (i := 72) rfl)), List.forall_mem_cons.mpr ⟨lw_inT (q_3 (List.mem_of_getElem? (i := 73) rfl)), List.forall_mem_cons.mpr ⟨lw_inT (q_3 (List.mem_of_getElem? (i := 75) rfl)), List.forall_mem_cons.mpr ⟨lw_inT (q_3 (List.mem_of_getElem? (i := 76) rfl)), List.forall_mem_cons.mpr ⟨lw_inT (q_3 (List.mem_of_getElem? (i := 77) rfl)), List.forall_mem_cons.mpr ⟨lw_inT (q_3 (List.mem_of_getElem? (i := 79) rfl)), List.forall_mem_cons.mpr ⟨lw_inT (q_3 (List.mem_of_getElem? (i := 80) rfl)), List.forall_mem_cons.mpr ⟨lw_inT (q_3 (List.mem_of_getElem? (i := 81) rfl)), List.forall_mem_cons.mpr ⟨lw_inT (q_3 (List.mem_of_getElem? (i := 83) rfl)), List.forall_mem_cons.mpr ⟨lw_inT (q_3 (List.mem_of_getElem? (i := 84) rfl)), List.forall_mem_cons.mpr ⟨lw_inT (q_3 (List.mem_of_getElem? (i := 85) rfl)), List.forall_mem_cons.mpr ⟨lw_inT (q_3 (List.mem_of_getElem? (i := 86) rfl)), List.forall_mem_cons.mpr ⟨lw_inT (q_3 (List.mem_of_getElem? (i := 87) rfl)), List.forall_mem_cons.mpr ⟨lw_inT (q_3 (List.mem_of_getElem? (i := 88) rfl)), List.forall_mem_cons.mpr ⟨lw_inT (q_3 (List.mem_of_getElem? (i := 89) rfl)), List.forall_mem_cons.mpr ⟨lw_inT (q_3 (List.mem_of_getElem? (i := 90) rfl)), List.forall_mem_cons.mpr ⟨lw_inT (q_3 (List.mem_of_getElem? (i := 91) rfl)), List.forall_mem_cons.mpr ⟨lw_inT (q_3 (List.mem_of_getElem? (i := 92) rfl)), List.forall_mem_cons.mpr ⟨lw_inT (q_3 (List.mem_of_getElem? (i := 93) rfl)), List.forall_mem_cons.mpr ⟨lw_inT (q_3 (List.mem_of_getElem? (i := 94) rfl)), List.forall_mem_cons.mpr ⟨lw_inT (q_3 (List.mem_of_getElem? (i := 95) rfl)), List.forall_mem_cons.mpr ⟨lw_inT (q_3 (List.mem_of_getElem? (i := 96) rfl)), List.forall_mem_cons.mpr ⟨lw_inT (q_3 (List.mem_of_getElem? (i := 97) rfl)), List.forall_mem_cons.mpr ⟨lw_inT (q_3 (List.mem_of_getElem? (i := 98) rfl)), List.forall_mem_cons.mpr ⟨lw_inT (q_3 (List.mem_of_getElem? (i := 99) rfl)), List.forall_mem_cons.mpr ⟨lw_inT (q_3 (List.mem_of_getElem? (i := 100) rfl)), List.forall_mem_cons.mpr ⟨lw_inT (q_3 (List.mem_of_getElem? (i := 101) rfl)), List.forall_mem_cons.mpr ⟨lw_inT (q_3 (List.mem_of_getElem? (i := 102) rfl)), List.forall_mem_cons.mpr ⟨lw_inT (q_3 (List.mem_of_getElem? (i := 103) rfl)), List.forall_mem_cons.mpr ⟨lw_inT (q_3 (List.mem_of_getElem? (i := 104) rfl)), List.forall_mem_cons.mpr ⟨lw_inT (q_3 (List.mem_of_getElem? (i := 105) rfl)), List.forall_mem_cons.mpr ⟨lw_inT (q_3 (List.mem_of_getElem? (i := 106) rfl)), List.forall_mem_cons.mpr ⟨lw_inT (q_3 (List.mem_of_getElem? (i := 107) rfl)), List.forall_mem_cons.mpr ⟨lw_inT (q_3 (List.mem_of_getElem? (i := 108) rfl)), List.forall_mem_cons.mpr ⟨lw_inT (q_3 (List.mem_of_getElem? (i := 109) rfl)), List.forall_mem_cons.mpr ⟨lw_inT (q_3 (List.mem_of_getElem? (i := 110) rfl)), List.forall_mem_cons.mpr ⟨lw_inT (q_3 (List.mem_of_getElem? (i := 111) rfl)), List.forall_mem_cons.mpr ⟨lw_inT (q_3 (List.mem_of_getElem? (i := 112) rfl)), List.forall_mem_cons.mpr ⟨lw_inT (q_3 (List.mem_of_getElem? (i := 113) rfl)), List.forall_mem_cons.mpr ⟨lw_inT (q_3 (List.mem_of_getElem? (i := 114) rfl)), List.forall_mem_cons.mpr ⟨lw_inT (q_3 (List.mem_of_getElem? (i := 115) rfl)), fun _ h => absurd h List.not_mem_nil⟩⟩⟩⟩⟩⟩⟩⟩⟩⟩⟩⟩⟩⟩⟩⟩⟩⟩⟩⟩⟩⟩⟩⟩⟩⟩⟩⟩⟩⟩⟩⟩⟩⟩⟩⟩⟩⟩⟩⟩⟩⟩⟩⟩⟩⟩⟩⟩⟩⟩⟩⟩⟩⟩⟩⟩⟩⟩⟩⟩
def gx_Ts_10 : List Cond := [w_600, w_601, w_602, w_603, w_604, w_605, w_606, w_607, w_608, w_609, w_610, w_611, w_612, w_613, w_614, w_615, w_616, w_617, w_618, w_619, w_620, w_621, w_622, w_623, w_624, w_625, w_626, w_627, w_628, w_629, w_630, w_631, w_632, w_633, w_634, w_635, w_636, w_637, w_638, w_639, w_640, w_641, w_642, w_643, w_644, w_645, w_646, w_647, w_648, w_649, w_650, w_651, w_652, w_653, w_654, w_655, w_656, w_657, w_658, w_659]
theorem gx_Ts_i10 : ∀ w ∈ gx_Ts_10, w ∈ lw_tbl := List.forall_mem_cons.mpr ⟨lw_inT (q_3 (List.mem_of_getElem? (i := 116) rfl)), List.forall_mem_cons.mpr ⟨lw_inT (q_3 (List.mem_of_getElem? (i := 117) rfl)), List.forall_mem_cons.mpr ⟨lw_inT (q_3 (List.mem_of_getElem? (i := 119) rfl)), List.forall_mem_cons.mpr ⟨lw_inT (q_3 (List.mem_of_getElem? (i := 121) rfl)), List.forall_mem_cons.mpr ⟨lw_inT (q_3 (List.mem_of_getElem? (i := 123) rfl)), List.forall_mem_cons.mpr ⟨lw_inT (q_3 (List.mem_of_getElem? (i := 125) rfl)), List.forall_mem_cons.mpr ⟨lw_inT (q_3 (List.mem_of_getElem? (i := 127) rfl)), List.forall_mem_cons.mpr ⟨lw_inT (q_3 (List.mem_of_getElem? (i := 130) rfl)), List.forall_mem_cons.mpr ⟨lw_inT (q_3 (List.mem_of_getElem? (i := 132) rfl)), List.forall_mem_cons.mpr ⟨lw_inT (q_3 (List.mem_of_getElem? (i := 133) rfl)), List.forall_mem_cons.mpr ⟨lw_inT (q_3 (List.mem_of_getElem? (i := 134) rfl)), List.forall_mem_cons.mpr ⟨lw_inT (q_3 (List.mem_of_getElem? (i := 136) rfl)), List.forall_mem_cons.mpr ⟨lw_inT (q_3 (List.mem_of_getElem? (i := 137) rfl)), List.forall_mem_cons.mpr ⟨lw_inT (q_3 (List.mem_of_getElem? (i := 138) rfl)), List.forall_mem_cons.mpr ⟨lw_inT (q_3 (List.mem_of_getElem? (i := 140) rfl)), List.forall_mem_cons.mpr ⟨lw_inT (q_3 (List.mem_of_getElem? (i := 141) rfl)), List.forall_mem_cons.mpr ⟨lw_inT (q_3 (List.mem_of_getElem? (i := 142) rfl)), List.forall_mem_cons.mpr ⟨lw_inT (q_3 (List.mem_of_getElem? (i := 143) rfl)), List.forall_mem_cons.mpr ⟨lw_inT (q_3 (List.mem_of_getElem? (i := 144) rfl)), List.forall_mem_cons.mpr ⟨lw_inT (q_3 (List.mem_of_getElem? (i := 145) rfl)), List.forall_mem_cons.mpr ⟨lw_inT (q_3 (List.mem_of_getElem? (i := 147) rfl)), List.forall_mem_cons.mpr ⟨lw_inT (q_3 (List.mem_of_getElem? (i := 148) rfl)), List.forall_mem_cons.mpr ⟨lw_inT (q_3 (List.mem_of_getElem? (i := 149) rfl)), List.forall_mem_cons.mpr ⟨lw_inT (q_3 (List.mem_of_getElem? (i := 151) rfl)), List.forall_mem_cons.mpr ⟨lw_inT (q_3 (List.mem_of_getElem? (i := 152) rfl)), List.forall_mem_cons.mpr ⟨lw_inT (q_3 (List.mem_of_getElem? (i := 153) rfl)), List.forall_mem_cons.mpr ⟨lw_inT (q_3 (List.mem_of_getElem? (i := 154) rfl)), List.forall_mem_cons.mpr ⟨lw_inT (q_3 (List.mem_of_getElem? (i := 155) rfl)), List.forall_mem_cons.mpr ⟨lw_inT (q_3 (List.mem_of_getElem? (i := 156) rfl)), List.forall_mem_cons.mpr ⟨lw_inT (q_3 (List.mem_of_getElem? (i := 158) rfl)), List.forall_mem_cons.mpr ⟨lw_inT (q_3 (List.mem_of_getElem? (i := 159) rfl)), List.forall_mem_cons.mpr ⟨lw_inT (q_3 (List.mem_of_getElem? (i := 160) rfl)), List.forall_mem_cons.mpr ⟨lw_inT (q_3 (List.mem_of_getElem? (i := 162) rfl)), List.forall_mem_cons.mpr ⟨lw_inT (q_3 (List.mem_of_getElem? (i := 163) rfl)), List.forall_mem_cons.mpr ⟨lw_inT (q_3 (List.mem_of_getElem? (i := 164) rfl)), List.forall_mem_cons.mpr ⟨lw_inT (q_3 (List.mem_of_getElem? (i := 166) rfl)), List.forall_mem_cons.mpr ⟨lw_inT (q_3 (List.mem_of_getElem? (i := 167) rfl)), List.forall_mem_cons.mpr ⟨lw_inT (q_3 (List.mem_of_getElem? (i := 168) rfl)), List.forall_mem_cons.mpr ⟨lw_inT (q_3 (List.mem_of_getElem? (i := 170) rfl)), List.forall_mem_cons.mpr ⟨lw_inT (q_3 (List.mem_of_getElem? (i := 171) rfl)), List.forall_mem_cons.mpr ⟨lw_inT (q_3 (List.mem_of_getElem? (i := 172) rfl)), List.forall_mem_cons.mpr ⟨lw_inT (q_3 (List.mem_of_getElem? (i := 173) rfl)), List.forall_mem_cons.mpr ⟨lw_inT (q_3 (List.mem_of_getElem? (i := 174) rfl)), List.forall_mem_cons.mpr ⟨lw_inT (q_3 (List.mem_of_getElem? (i := 175) rfl)), List.forall_mem_cons.mpr ⟨lw_inT (q_3 (List.mem_of_getElem? (i := 177) rfl)), List.forall_mem_cons.mpr ⟨lw_inT (q_3 (List.mem_of_getElem? (i := 178) rfl)), List.forall_mem_cons.mpr ⟨lw_inT (q_3 (List.mem_of_getElem? (i := 179) rfl)), List.forall_mem_cons.mpr ⟨lw_inT (q_3 (List.mem_of_getElem? (i := 181) rfl)), List.forall_mem_cons.mpr ⟨lw_inT (q_3 (List.mem_of_getElem? (i := 182) rfl)), List.forall_mem_cons.mpr ⟨lw_inT (q_3 (List.mem_of_getElem? (i := 183) rfl)), List.forall_mem_cons.mpr ⟨lw_inT (q_3 (List.mem_of_getElem? (i := 185) rfl)), List.forall_mem_cons.mpr ⟨lw_inT (q_3 (List.mem_of_getElem? (i := 186) rfl)), List.forall_mem_cons.mpr ⟨lw_inT (q_3 (List.mem_of_getElem? (i := 187) rfl)), List.forall_mem_cons.mpr ⟨lw_inT (q_3 (List.mem_of_getElem? (i := 189) rfl)), List.forall_mem_cons.mpr ⟨lw_inT (q_3 (List.mem_of_getElem? (i := 190) rfl)), List.forall_mem_cons.mpr ⟨lw_inT (q_3 (List.mem_of_getElem? (i := 191) rfl)), List.forall_mem_cons.mpr ⟨lw_inT (q_3 (List.mem_of_getElem? (i := 193) rfl)), List.forall_mem_cons.mpr ⟨lw_inT (q_3 (List.mem_of_getElem? (i := 194) rfl)), List.forall_mem_cons.mpr ⟨lw_inT (q_3 (List.mem_of_getElem? (i := 195) rfl)), List.forall_mem_cons.mpr ⟨lw_inT (q_3 (List.mem_of_getElem? (i := 196) rfl)), fun _ h => absurd h List.not_mem_nil⟩⟩⟩⟩⟩⟩⟩⟩⟩⟩⟩⟩⟩⟩⟩⟩⟩⟩⟩⟩⟩⟩⟩⟩⟩⟩⟩⟩⟩⟩⟩⟩⟩⟩⟩⟩⟩⟩⟩⟩⟩⟩⟩⟩⟩⟩⟩⟩⟩⟩⟩⟩⟩⟩⟩⟩⟩⟩⟩⟩
def gx_Ts_11 : List Cond := [w_660, w_661, w_662, w_663, w_664, w_665, w_666, w_667, w_668, w_669, w_670, w_671, w_672, w_673, w_674, w_675, w_676, w_677, w_678, w_679, w_680, w_681, w_682, w_683, w_684, w_685, w_686, w_687, w_688, w_689, w_690, w_691, w_692, w_693, w_694, w_695, w_696, w_697, w_698, w_699, w_700, w_701, w_702, w_703, w_704, w_705, w_706, w_707, w_708, w_709, w_710, w_711, w_712, w_713, w_714, w_715, w_716, w_717, w_718, w_719]
theorem gx_Ts_i11 : ∀ w ∈ gx_Ts_11, w ∈ lw_tbl := List.forall_mem_cons.mpr ⟨lw_inT (q_3 (List.mem_of_getElem? (i := 197) rfl)), List.forall_mem_cons.mpr ⟨lw_inT (q_3 (List.mem_of_getElem? (i := 198) rfl)), List.forall_mem_cons.mpr ⟨lw_inT (q_3 (List.mem_of_getElem? (i := 199) rfl)), List.forall_mem_cons.mpr ⟨lw_inT (q_3 (List.mem_of_getElem? (i := 200) rfl)), List.forall_mem_cons.mpr ⟨lw_inT (q_3 (List.mem_of_getElem? (i := 201) rfl)), List.forall_mem_cons.mpr ⟨lw_inT (q_3 (List.mem_of_getElem? (i := 202) rfl)), List.forall_mem_cons.mpr ⟨lw_inT (q_3 (List.mem_of_getElem? (i := 204) rfl)), List.forall_mem_cons.mpr ⟨lw_inT (q_3 (List.mem_of_getElem? (i := 205) rfl)), List.forall_mem_cons.mpr ⟨lw_inT (q_3 (List.mem_of_getElem? (i := 206) rfl)), List.forall_mem_cons.mpr ⟨lw_inT (q_3 (List.mem_of_getElem? (i := 207) rfl)), List.forall_mem_cons.mpr ⟨lw_inT (q_3 (List.mem_of_getElem? (i := 208) rfl)), List.forall_mem_cons.mpr ⟨lw_inT (q_3 (List.mem_of_getElem? (i := 209) rfl)), List.forall_mem_cons.mpr ⟨lw_inT (q_3 (List.mem_of_getElem? (i := 210) rfl)), List.forall_mem_cons.mpr ⟨lw_inT (q_3 (List.mem_of_getElem? (i := 211) rfl)), List.forall_mem_cons.mpr ⟨lw_inT (q_3 (List.mem_of_getElem? (i := 212) rfl)), List.forall_mem_cons.mpr ⟨lw_inT (q_3 (List.mem_of_getElem? (i := 213) rfl)), List.forall_mem_cons.mpr ⟨lw_inT (q_3 (List.mem_of_getElem? (i := 214) rfl)), List.forall_mem_cons.mpr ⟨lw_inT (q_3 (List.mem_of_getElem? (i := 215) rfl)), List.forall_mem_cons.mpr ⟨lw_inT (q_3 (List.mem_of_getElem? (i := 216) rfl)), List.forall_mem_cons.mpr ⟨lw_inT (q_3 (List.mem_of_getElem? (i := 217) rfl)), List.forall_mem_cons.mpr ⟨lw_inT (q_3 (List.mem_of_getElem? (i := 218) rfl)), List.forall_mem_cons.mpr ⟨lw_inT (q_3 (List.mem_of_getElem? (i := 219) rfl)), List.forall_mem_cons.mpr ⟨lw_inT (q_3 (List.mem_of_getElem? (i := 220) rfl)), List.forall_mem_cons.mpr ⟨lw_inT (q_3 (List.mem_of_getElem? (i := 221) rfl)), List.forall_mem_cons.mpr ⟨lw_inT (q_3 (List.mem_of_getElem? (i := 222) rfl)), List.forall_mem_cons.mpr ⟨lw_inT (q_3 (List.mem_of_getElem? (i := 223) rfl)), List.forall_mem_cons.mpr ⟨lw_inT (q_3 (List.mem_of_getElem? (i := 225) rfl)), List.forall_mem_cons.mpr ⟨lw_inT (q_3 (List.mem_of_getElem? (i := 227) rfl)), List.forall_mem_cons.mpr ⟨lw_inT (q_3 (List.mem_of_getElem? (i := 229) rfl)), List.forall_mem_cons.mpr ⟨lw_inT (q_3 (List.mem_of_getElem? (i := 231) rfl)), List.forall_mem_cons.mpr ⟨lw_inT (q_3 (List.mem_of_getElem? (i := 234) rfl)), List.forall_mem_cons.mpr ⟨lw_inT (q_3 (List.mem_of_getElem? (i := 235) rfl)), List.forall_mem_cons.mpr ⟨lw_inT (q_3 (List.mem_of_getElem? (i := 236) rfl)), List.forall_mem_cons.mpr ⟨lw_inT (q_3 (List.mem_of_getElem? (i := 237) rfl)), List.forall_mem_cons.mpr ⟨lw_inT (q_3 (List.mem_of_getElem? (i := 238) rfl)), List.forall_mem_cons.mpr ⟨lw_inT (q_3 (List.mem_of_getElem? (i := 239) rfl)), List.forall_mem_cons.mpr ⟨lw_inT (q_4 (List.mem_of_getElem? (i := 0) rfl)), List.forall_mem_cons.mpr ⟨lw_inT (q_4 (List.mem_of_getElem? (i := 1) rfl)), List.forall_mem_cons.mpr ⟨lw_inT (q_4 (List.mem_of_getElem? (i := 2) rfl)), List.forall_mem_cons.mpr ⟨lw_inT (q_4 (List.mem_of_getElem? (i := 3) rfl)), List.forall_mem_cons.mpr ⟨lw_inT (q_4 (List.mem_of_getElem? (i := 4) rfl)), List.forall_mem_cons.mpr ⟨lw_inT (q_4 (List.mem_of_getElem? (i := 12) rfl)), List.forall_mem_cons.mpr ⟨lw_inT (q_4 (List.mem_of_getElem? (i := 13) rfl)), List.forall_mem_cons.mpr ⟨lw_inT (q_4 (List.mem_of_getElem? (i := 14) rfl)), List.forall_mem_cons.mpr ⟨lw_inT (q_4 (List.mem_of_getElem? (i := 15) rfl)), List.forall_mem_cons.mpr ⟨lw_inT (q_4 (List.mem_of_getElem? (i := 16) rfl)), List.forall_mem_cons.mpr ⟨lw_inT (q_4 (List.mem_of_getElem? (i := 17) rfl)), List.forall_mem_cons.mpr ⟨lw_inT (q_4 (List.mem_of_getElem? (i := 18) rfl)), List.forall_mem_cons.mpr ⟨lw_inT (q_4 (List.mem_of_getElem? (i := 19) rfl)), List.forall_mem_cons.mpr ⟨lw_inT (q_4 (List.mem_of_getElem? (i := 20) rfl)), List.forall_mem_cons.mpr ⟨lw_inT (q_4 (List.mem_of_getElem? (i := 21) rfl)), List.forall_mem_cons.mpr ⟨lw_inT (q_4 (List.mem_of_getElem? (i := 22) rfl)), List.forall_mem_cons.mpr ⟨lw_inT (q_4 (List.mem_of_getElem? (i := 23) rfl)), List.forall_mem_cons.mpr ⟨lw_inT (q_4 (List.mem_of_getElem? (i := 24) rfl)), List.forall_mem_cons.mpr ⟨lw_inT (q_4 (List.mem_of_getElem? (i := 26) rfl)), List.forall_mem_cons.mpr ⟨lw_inT (q_4 (List.mem_of_getElem? (i := 27) rfl)), List.forall_mem_cons.mpr ⟨lw_inT (q_4 (List.mem_of_getElem? (i := 28) rfl)), List.forall_mem_cons.mpr ⟨lw_inT (q_4 (List.mem_of_getElem? (i := 29) rfl)), List.forall_mem_cons.mpr ⟨lw_inT (q_4 (List.mem_of_getElem? (i := 31) rfl)), List.forall_mem_cons.mpr ⟨lw_inT (q_4 (List.mem_of_getElem? (i := 33) rfl)), fun _ h => absurd h List.not_mem_nil⟩⟩⟩⟩⟩⟩⟩⟩⟩⟩⟩⟩⟩⟩⟩⟩⟩⟩⟩⟩⟩⟩⟩⟩⟩⟩⟩⟩⟩⟩⟩⟩⟩⟩⟩⟩⟩⟩⟩⟩⟩⟩⟩⟩⟩⟩⟩⟩⟩⟩⟩⟩⟩⟩⟩⟩⟩⟩⟩⟩
def gx_Ts_12 : List Cond := [w_720, w_721, w_722, w_723, w_724, w_725, w_726, w_727, w_728, w_729, w_730, w_731, w_732, w_733, w_734, w_735, w_736, w_737, w_738, w_739, w_740, w_741, w_742, w_743, w_744, w_745, w_746, w_747, w_748, w_749, w_750, w_751, w_752, w_753, w_754, w_755, w_756, w_757, w_758, w_759, w_760, w_761, w_762, w_763, w_764, w_765, w_766, w_767, w_768, w_769, w_770, w_771, w_772, w_773, w_774, w_775, w_776, w_777, w_778, w_779]
theorem gx_Ts_i12 : ∀ w ∈ gx_Ts_12, w ∈ lw_tbl := List.forall_mem_cons.mpr ⟨lw_inT (q_4 (List.mem_of_getElem? (i := 34) rfl)), List.forall_mem_cons.mpr ⟨lw_inT (q_4 (List.mem_of_getElem? (i := 35) rfl)), List.forall_mem_cons.mpr ⟨lw_inT (q_4 (List.mem_of_getElem? (i := 37) rfl)), List.forall_mem_cons.mpr ⟨lw_inT (q_4 (List.mem_of_getElem? (i := 39) rfl)), List.forall_mem_cons.mpr ⟨lw_inT (q_4 (List.mem_of_getElem? (i := 40) rfl)), List.forall_mem_cons.mpr ⟨lw_inT (q_4 (List.mem_of_getElem? (i := 41) rfl)), List.forall_mem_cons.mpr ⟨lw_inT (q_4 (List.mem_of_getElem? (i := 43) rfl)), List.forall_mem_cons.mpr ⟨lw_inT (q_4 (List.mem_of_getElem? (i := 44) rfl)), List.forall_mem_cons.mpr ⟨lw_inT (q_4 (List.mem_of_getElem? (i := 45) rfl)), List.forall_mem_cons.mpr ⟨lw_inT (q_4 (List.mem_of_getElem? (i := 46) rfl)), List.forall_mem_cons.mpr ⟨lw_inT (q_4 (List.mem_of_getElem? (i := 47) rfl)), List.forall_mem_cons.mpr ⟨lw_inT (q_4 (List.mem_of_getElem? (i := 48) rfl)), List.forall_mem_cons.mpr ⟨lw_inT (q_4 (List.mem_of_getElem? (i := 49) rfl)), List.forall_mem_cons.mpr ⟨lw_inT (q_4 (List.mem_of_getElem? (i := 50) rfl)), List.forall_mem_cons.mpr ⟨lw_inT (q_4 (List.mem_of_getElem? (i := 51) rfl)), List.forall_mem_cons.mpr ⟨lw_inT (q_4 (List.mem_of_getElem? (i := 52) rfl)), List.forall_mem_cons.mpr ⟨lw_inT (q_4 (List.mem_of_getElem? (i := 53) rfl)), List.forall_mem_cons.mpr ⟨lw_inT (q_4 (List.mem_of_getElem? (i := 54) rfl)), List.forall_mem_cons.mpr ⟨lw_inT (q_4 (List.mem_of_getElem? (i := 56) rfl)), List.forall_mem_cons.mpr ⟨lw_inT (q_4 (List.mem_of_getElem? (i := 57) rfl)), List.forall_mem_cons.mpr ⟨lw_inT (q_4 (List.mem_of_getElem? (i := 58) rfl)), List.forall_mem_cons.mpr ⟨lw_inT (q_4 (List.mem_of_getElem? (i := 59) rfl)), List.forall_mem_cons.mpr ⟨lw_inT (q_4 (List.mem_of_getElem? (i := 64) rfl)), List.forall_mem_cons.mpr ⟨lw_inT (q_4 (List.mem_of_getElem? (i := 68) rfl)), List.forall_mem_cons.mpr ⟨lw_inT (q_4 (List.mem_of_getElem? (i := 69) rfl)), List.forall_mem_cons.mpr ⟨lw_inT (q_4 (List.mem_of_getElem? (i := 70) rfl)), List.forall_mem_cons.mpr ⟨lw_inT (q_4 (List.mem_of_getElem? (i := 71) rfl)), List.forall_mem_cons.mpr ⟨lw_inT (q_4 (List.mem_of_getElem? (i := 72) rfl)), List.forall_mem_cons.mpr ⟨lw_inT (q_4 (List.mem_of_getElem? (i := 73) rfl)), List.forall_mem_cons.mpr ⟨lw_inT (q_4 (List.mem_of_getElem? (i := 74) rfl)), List.forall_mem_cons.mpr ⟨lw_inT (q_4 (List.mem_of_getElem? (i := 75) rfl)), List.forall_mem_cons.mpr ⟨lw_inT (q_4 (List.mem_of_getElem? (i := 76) rfl)), List.forall_mem_cons.mpr ⟨lw_inT (q_4 (List.mem_of_getElem? (i := 77) rfl)), List.forall_mem_cons.mpr ⟨lw_inT (q_4 (List.mem_of_getElem? (i := 78) rfl)), List.forall_mem_cons.mpr ⟨lw_inT (q_4 (List.mem_of_getElem? (i := 79) rfl)), List.forall_mem_cons.mpr ⟨lw_inT (q_4 (List.mem_of_getElem? (i := 80) rfl)), List.forall_mem_cons.mpr ⟨lw_inT (q_4 (List.mem_of_getElem? (i := 81) rfl)), List.forall_mem_cons.mpr ⟨lw_inT (q_4 (List.mem_of_getElem? (i := 82) rfl)), List.forall_mem_cons.mpr ⟨lw_inT (q_4 (List.mem_of_getElem? (i := 83) rfl)), List.forall_mem_cons.mpr ⟨lw_inT (q_4 (List.mem_of_getElem? (i := 84) rfl)), List.forall_mem_cons.mpr ⟨lw_inT (q_4 (List.mem_of_getElem? (i := 85) rfl)), List.forall_mem_cons.mpr ⟨lw_inT (q_4 (List.mem_of_getElem? (i := 86) rfl)), List.forall_mem_cons.mpr ⟨lw_inT (q_4 (List.mem_of_getElem? (i := 87) rfl)), List.forall_mem_cons.mpr ⟨lw_inT (q_4 (List.mem_of_getElem? (i := 88) rfl)), List.forall_mem_cons.mpr ⟨lw_inT (q_4 (List.mem_of_getElem? (i := 89) rfl)), List.forall_mem_cons.mpr ⟨lw_inT (q_4 (List.mem_of_getElem? (i := 90) rfl)), List.forall_mem_cons.mpr ⟨lw_inT (q_4 (List.mem_of_getElem? (i := 91) rfl)), List.forall_mem_cons.mpr ⟨lw_inT (q_4 (List.mem_of_getElem? (i := 92) rfl)), List.forall_mem_cons.mpr ⟨lw_inT (q_4 (List.mem_of_getElem? (i := 93) rfl)), List.forall_mem_cons.mpr ⟨lw_inT (q_4 (List.mem_of_getElem? (i := 94) rfl)), List.forall_mem_cons.mpr ⟨lw_inT (q_4 (List.mem_of_getElem? (i := 95) rfl)), List.forall_mem_cons.mpr ⟨lw_inT (q_4 (List.mem_of_getElem? (i := 96) rfl)), List.forall_mem_cons.mpr ⟨lw_inT (q_4 (List.mem_of_getElem? (i := 97) rfl)), List.forall_mem_cons.mpr ⟨lw_inT (q_4 (List.mem_of_getElem? (i := 98) rfl)), List.forall_mem_cons.mpr ⟨lw_inT (q_4 (List.mem_of_getElem? (i := 99) rfl)), List.forall_mem_cons.mpr ⟨lw_inT (q_4 (List.mem_of_getElem? (i := 100) rfl)), List.forall_mem_cons.mpr ⟨lw_inT (q_4 (List.mem_of_getElem? (i := 101) rfl)), List.forall_mem_cons.mpr ⟨lw_inT (q_4 (List.mem_of_getElem? (i := 102) rfl)), List.forall_mem_cons.mpr ⟨lw_inT (q_4 (List.mem_of_getElem? (i := 103) rfl)), List.forall_mem_cons.mpr ⟨lw_inT (q_4 (List.mem_of_getElem? (i := 104) rfl)), fun _ h => absurd h List.not_mem_nil⟩⟩⟩⟩⟩⟩⟩⟩⟩⟩⟩⟩⟩⟩⟩⟩⟩⟩⟩⟩⟩⟩⟩⟩⟩⟩⟩⟩⟩⟩⟩⟩⟩⟩⟩⟩⟩⟩⟩⟩⟩⟩⟩⟩⟩⟩⟩⟩⟩⟩⟩⟩⟩⟩⟩⟩⟩⟩⟩⟩
def gx_Ts_13 : List Cond := [w_780, w_781, w_782, w_783, w_784, w_785, w_786, w_787, w_788, w_789, w_790, w_791, w_792, w_793, w_794, w_795, w_796, w_797, w_798, w_799, w_800, w_801, w_802, w_803, w_804, w_805, w_806, w_807, w_808, w_809, w_810, w_811, w_812, w_813, w_814, w_815, w_816, w_817, w_818, w_819, w_820, w_821, w_822, w_823, w_824, w_825, w_826, w_827, w_828, w_829, w_830, w_831, w_832, w_833, w_834, w_835, w_836, w_837, w_838, w_839]
theorem gx_Ts_i13 : ∀ w ∈ gx_Ts_13, w ∈ lw_tbl := List.forall_mem_cons.mpr ⟨lw_inT (q_4 (List.mem_of_getElem? (i := 105) rfl)), List.forall_mem_cons.mpr ⟨lw_inT (q_4 (List.mem_of_getElem? (i := 106) rfl)), List.forall_mem_cons.mpr ⟨lw_inT (q_4 (List.mem_of_getElem? (i := 107) rfl)), List.forall_mem_cons.mpr ⟨lw_inT (q_4 (List.mem_of_getElem? (i := 108) rfl)), List.forall_mem_cons.mpr ⟨lw_inT (q_4 (List.mem_of_getElem? (i := 109) rfl)), List.forall_mem_cons.mpr ⟨lw_inT (q_4 (List.mem_of_getElem? (i := 110) rfl)), List.forall_mem_cons.mpr ⟨lw_inT (q_4 (List.mem_of_getElem? (i := 111) rfl)), List.forall_mem_cons.mpr ⟨lw_inT (q_4 (List.mem_of_getElem? (i := 112) rfl)), List.forall_mem_cons.mpr ⟨lw_inT (q_4 (List.mem_of_getElem? (i := 113) rfl)), List.forall_mem_cons.mpr ⟨lw_inT (q_4 (List.mem_of_getElem? (i := 114) rfl)), List.forall_mem_cons.mpr ⟨lw_inT (q_4 (List.mem_of_getElem? (i := 115) rfl)), List.forall_mem_cons.mpr ⟨lw_inT (q_4 (List.mem_of_getElem? (i := 116) rfl)), List.forall_mem_cons.mpr ⟨lw_inT (q_4 (List.mem_of_getElem? (i := 117) rfl)), List.forall_mem_cons.mpr ⟨lw_inT (q_4 (List.mem_of_getElem? (i := 118) rfl)), List.forall_mem_cons.mpr ⟨lw_inT (q_4 (List.mem_of_getElem? (i := 119) rfl)), List.forall_mem_cons.mpr ⟨lw_inT (q_4 (List.mem_of_getElem? (i := 120) rfl)), List.forall_mem_cons.mpr ⟨lw_inT (q_4 (List.mem_of_getElem? (i := 121) rfl)), List.forall_mem_cons.mpr ⟨lw_inT (q_4 (List.mem_of_getElem? (i := 122) rfl)), List.forall_mem_cons.mpr ⟨lw_inT (q_4 (List.mem_of_getElem? (i := 123) rfl)), List.forall_mem_cons.mpr ⟨lw_inT (q_4 (List.mem_of_getElem? (i := 124) rfl)), List.forall_mem_cons.mpr ⟨lw_inT (q_4 (List.mem_of_getElem? (i := 125) rfl)), List.forall_mem_cons.mpr ⟨lw_inT (q_4 (List.mem_of_getElem? (i := 126) rfl)), List.forall_mem_cons.mpr ⟨lw_inT (q_4 (List.mem_of_getElem? (i := 127) rfl)), List.forall_mem_cons.mpr ⟨lw_inT (q_4 (List.mem_of_getElem? (i := 128) rfl)), List.forall_mem_cons.mpr ⟨lw_inT (q_4 (List.mem_of_getElem? (i := 129) rfl)), List.forall_mem_cons.mpr ⟨lw_inT (q_4 (List.mem_of_getElem? (i := 130) rfl)), List.forall_mem_cons.mpr ⟨lw_inT (q_4 (List.mem_of_getElem? (i := 131) rfl)), List.forall_mem_cons.mpr ⟨lw_inT (q_4 (List.mem_of_getElem? (i := 132) rfl)), List.forall_mem_cons.mpr ⟨lw_inT (q_4 (List.mem_of_getElem? (i := 133) rfl)), List.forall_mem_cons.mpr ⟨lw_inT (q_4 (List.mem_of_getElem? (i := 134) rfl)), List.forall_mem_cons.mpr ⟨lw_inT (q_4 (List.mem_of_getElem? (i := 135) rfl)), List.forall_mem_cons.mpr ⟨lw_inT (q_4 (List.mem_of_getElem? (i := 137) rfl)), List.forall_mem_cons.mpr ⟨lw_inT (q_4 (List.mem_of_getElem? (i := 139) rfl)), List.forall_mem_cons.mpr ⟨lw_inT (q_4 (List.mem_of_getElem? (i := 141) rfl)), List.forall_mem_cons.mpr ⟨lw_inT (q_4 (List.mem_of_getElem? (i := 143) rfl)), List.forall_mem_cons.mpr ⟨lw_inT (q_4 (List.mem_of_getElem? (i := 145) rfl)), List.forall_mem_cons.mpr ⟨lw_inT (q_4 (List.mem_of_getElem? (i := 147) rfl)), List.forall_mem_cons.mpr ⟨lw_inT (q_4 (List.mem_of_getElem? (i := 149) rfl)), List.forall_mem_cons.mpr ⟨lw_inT (q_4 (List.mem_of_getElem? (i := 151) rfl)), List.forall_mem_cons.mpr ⟨lw_inT (q_4 (List.mem_of_getElem? (i := 153) rfl)), List.forall_mem_cons.mpr ⟨lw_inT (q_4 (List.mem_of_getElem? (i := 155) rfl)), List.forall_mem_cons.mpr ⟨lw_inT (q_4 (List.mem_of_getElem? (i := 157) rfl)), List.forall_mem_cons.mpr ⟨lw_inT (q_4 (List.mem_of_getElem? (i := 159) rfl)), List.forall_mem_cons.mpr ⟨lw_inT (q_4 (List.mem_of_getElem? (i := 161) rfl)), List.forall_mem_cons.mpr ⟨lw_inT (q_4 (List.mem_of_getElem? (i := 163) rfl)), List.forall_mem_cons.mpr ⟨lw_inT (q_4 (List.mem_of_getElem? (i := 165) rfl)), List.forall_mem_cons.mpr ⟨lw_inT (q_4 (List.mem_of_getElem? (i := 167) rfl)), List.forall_mem_cons.mpr ⟨lw_inT (q_4 (List.mem_of_getElem? (i := 169) rfl)), List.forall_mem_cons.mpr ⟨lw_inT (q_4 (List.mem_of_getElem? (i := 171) rfl)), List.forall_mem_cons.mpr ⟨lw_inT (q_4 (List.mem_of_getElem? (i := 173) rfl)), List.forall_mem_cons.mpr ⟨lw_inT (q_4 (List.mem_of_getElem? (i := 175) rfl)), List.forall_mem_cons.mpr ⟨lw_inT (q_4 (List.mem_of_getElem? (i := 177) rfl)), List.forall_mem_cons.mpr ⟨lw_inT (q_4 (List.mem_of_getElem? (i := 179) rfl)), List.forall_mem_cons.mpr ⟨lw_inT (q_4 (List.mem_of_getElem? (i := 181) rfl)), List.forall_mem_cons.mpr ⟨lw_inT (q_4 (List.mem_of_getElem? (i := 183) rfl)), List.forall_mem_cons.mpr ⟨lw_inT (q_4 (List.mem_of_getElem? (i := 185) rfl)), List.forall_mem_cons.mpr ⟨lw_inT (q_4 (List.mem_of_getElem? (i := 187) rfl)), List.forall_mem_cons.mpr ⟨lw_inT (q_4 (List.mem_of_getElem? (i := 189) rfl)), List.forall_mem_cons.mpr ⟨lw_inT (q_4 (List.mem_of_getElem? (i := 191) rfl)), List.forall_mem_cons.mpr ⟨lw_inT (q_4 (List.mem_of_getElem? (i := 193) rfl)), fun _ h => absurd h List.not_mem_nil⟩⟩⟩⟩⟩⟩⟩⟩⟩⟩⟩⟩⟩⟩⟩⟩⟩⟩⟩⟩⟩⟩⟩⟩⟩⟩⟩⟩⟩⟩⟩⟩⟩⟩⟩⟩⟩⟩⟩⟩⟩⟩⟩⟩⟩⟩⟩⟩⟩⟩⟩⟩⟩⟩⟩⟩⟩⟩⟩⟩
def gx_Ts_14 : List Cond := [w_840, w_841, w_842, w_843, w_844, w_845, w_846, w_847, w_848, w_849, w_850, w_851, w_852, w_853, w_854, w_855, w_856, w_857, w_858, w_859, w_860, w_861, w_862, w_863, w_864, w_865, w_866, w_867, w_868, w_869, w_870, w_871, w_872, w_873, w_874, w_875, w_876, w_877, w_878, w_879, w_880, w_881, w_882, w_883, w_884, w_885, w_886, w_887, w_888, w_889, w_890, w_891, w_892, w_893, w_894, w_895, w_896, w_897, w_898, w_899]
theorem gx_Ts_i14 : ∀ w ∈ gx_Ts_14, w ∈ lw_tbl := List.forall_mem_cons.mpr ⟨lw_inT (q_4 (List.mem_of_getElem? (i := 195) rfl)), List.forall_mem_cons.mpr ⟨lw_inT (q_4 (List.mem_of_getElem? (i := 197) rfl)), List.forall_mem_cons.mpr ⟨lw_inT (q_4 (List.mem_of_getElem? (i := 199) rfl)), List.forall_mem_cons.mpr ⟨lw_inT (q_4 (List.mem_of_getElem? (i := 201) rfl)), List.forall_mem_cons.mpr ⟨lw_inT (q_4 (List.mem_of_getElem? (i := 203) rfl)), List.forall_mem_cons.mpr ⟨lw_inT (q_4 (List.mem_of_getElem? (i := 205) rfl)), List.forall_mem_cons.mpr ⟨lw_inT (q_4 (List.mem_of_getElem? (i := 207) rfl)), List.forall_mem_cons.mpr ⟨lw_inT (q_4 (List.mem_of_getElem? (i := 209) rfl)), List.forall_mem_cons.mpr ⟨lw_inT (q_4 (List.mem_of_getElem? (i := 211) rfl)), List.forall_mem_cons.mpr ⟨lw_inT (q_4 (List.mem_of_getElem? (i := 213) rfl)), List.forall_mem_cons.mpr ⟨lw_inT (q_4 (List.mem_of_getElem? (i := 215) rfl)), List.forall_mem_cons.mpr ⟨lw_inT (q_4 (List.mem_of_getElem? (i := 217) rfl)), List.forall_mem_cons.mpr ⟨lw_inT (q_4 (List.mem_of_getElem? (i := 219) rfl)), List.forall_mem_cons.mpr ⟨lw_inT (q_4 (List.mem_of_getElem? (i := 221) rfl)), List.forall_mem_cons.mpr ⟨lw_inT (q_4 (List.mem_of_getElem? (i := 223) rfl)), List.forall_mem_cons.mpr ⟨lw_inT (q_4 (List.mem_of_getElem? (i := 225) rfl)), List.forall_mem_cons.mpr ⟨lw_inT (q_4 (List.mem_of_getElem? (i := 227) rfl)), List.forall_mem_cons.mpr ⟨lw_inT (q_4 (List.mem_of_getElem? (i := 229) rfl)), List.forall_mem_cons.mpr ⟨lw_inT (q_4 (List.mem_of_getElem? (i := 231) rfl)), List.forall_mem_cons.mpr ⟨lw_inT (q_4 (List.mem_of_getElem? (i := 233) rfl)), List.forall_mem_cons.mpr ⟨lw_inT (q_4 (List.mem_of_getElem? (i := 235) rfl)), List.forall_mem_cons.mpr ⟨lw_inT (q_4 (List.mem_of_getElem? (i := 237) rfl)), List.forall_mem_cons.mpr ⟨lw_inT (q_4 (List.mem_of_getElem? (i := 239) rfl)), List.forall_mem_cons.mpr ⟨lw_inT (q_5 (List.mem_of_getElem? (i := 1) rfl)), List.forall_mem_cons.mpr ⟨lw_inT (q_5 (List.mem_of_getElem? (i := 3) rfl)), List.forall_mem_cons.mpr ⟨lw_inT (q_5 (List.mem_of_getElem? (i := 5) rfl)), List.forall_mem_cons.mpr ⟨lw_inT (q_5 (List.mem_of_getElem? (i := 7) rfl)), List.forall_mem_cons.mpr ⟨lw_inT (q_5 (List.mem_of_getElem? (i := 9) rfl)), List.forall_mem_cons.mpr ⟨lw_inT (q_5 (List.mem_of_getElem? (i := 11) rfl)), List.forall_mem_cons.mpr ⟨lw_inT (q_5 (List.mem_of_getElem? (i := 13) rfl)), List.forall_mem_cons.mpr ⟨lw_inT (q_5 (List.mem_of_getElem? (i := 16) rfl)), List.forall_mem_cons.mpr ⟨lw_inT (q_5 (List.mem_of_getElem? (i := 17) rfl)), List.forall_mem_cons.mpr ⟨lw_inT (q_5 (List.mem_of_getElem? (i := 18) rfl)), List.forall_mem_cons.mpr ⟨lw_inT (q_5 (List.mem_of_getElem? (i := 19) rfl)), List.forall_mem_cons.mpr ⟨lw_inT (q_5 (List.mem_of_getElem? (i := 20) rfl)), List.forall_mem_cons.mpr ⟨lw_inT (q_5 (List.mem_of_getElem? (i := 21) rfl)), List.forall_mem_cons.mpr ⟨lw_inT (q_5 (List.mem_of_getElem? (i := 22) rfl)), List.forall_mem_cons.mpr ⟨lw_inT (q_5 (List.mem_of_getElem? (i := 23) rfl)), List.forall_mem_cons.mpr ⟨lw_inT (q_5 (List.mem_of_getElem? (i := 24) rfl)), List.forall_mem_cons.mpr ⟨lw_inT (q_5 (List.mem_of_getElem? (i := 25) rfl)), List.forall_mem_cons.mpr ⟨lw_inT (q_5 (List.mem_of_getElem? (i := 26) rfl)), List.forall_mem_cons.mpr ⟨lw_inT (q_5 (List.mem_of_getElem? (i := 27) rfl)), List.forall_mem_cons.mpr ⟨lw_inT (q_5 (List.mem_of_getElem? (i := 28) rfl)), List.forall_mem_cons.mpr ⟨lw_inT (q_5 (List.mem_of_getElem? (i := 29) rfl)), List.forall_mem_cons.mpr ⟨lw_inT (q_5 (List.mem_of_getElem? (i := 31) rfl)), List.forall_mem_cons.mpr ⟨lw_inT (q_5 (List.mem_of_getElem? (i := 32) rfl)), List.forall_mem_cons.mpr ⟨lw_inT (q_5 (List.mem_of_getElem? (i := 33) rfl)), List.forall_mem_cons.mpr ⟨lw_inT (q_5 (List.mem_of_getElem? (i := 35) rfl)), List.forall_mem_cons.mpr ⟨lw_inT (q_5 (List.mem_of_getElem? (i := 36) rfl)), List.forall_mem_cons.mpr ⟨lw_inT (q_5 (List.mem_of_getElem? (i := 37) rfl)), List.forall_mem_cons.mpr ⟨lw_inT (q_5 (List.mem_of_getElem? (i := 39) rfl)), List.forall_mem_cons.mpr ⟨lw_inT (q_5 (List.mem_of_getElem? (i := 40) rfl)), List.forall_mem_cons.mpr ⟨lw_inT (q_5 (List.mem_of_getElem? (i := 41) rfl)), List.forall_mem_cons.mpr ⟨lw_inT (q_5 (List.mem_of_getElem? (i := 42) rfl)), List.forall_mem_cons.mpr ⟨lw_inT (q_5 (List.mem_of_getElem? (i := 43) rfl)), List.forall_mem_cons.mpr ⟨lw_inT (q_5 (List.mem_of_getElem? (i := 44) rfl)), List.forall_mem_cons.mpr ⟨lw_inT (q_5 (List.mem_of_getElem? (i := 46) rfl)), List.forall_mem_cons.mpr ⟨lw_inT (q_5 (List.mem_of_getElem? (i := 47) rfl)), List.forall_mem_cons.mpr ⟨lw_inT (q_5 (List.mem_of_getElem? (i := 48) rfl)), List.forall_mem_cons.mpr ⟨lw_inT (q_5 (List.mem_of_getElem? (i := 50) rfl)), fun _ h => absurd h List.not_mem_nil⟩⟩⟩⟩⟩⟩⟩⟩⟩⟩⟩⟩⟩⟩⟩⟩⟩⟩⟩⟩⟩⟩⟩⟩⟩⟩⟩⟩⟩⟩⟩⟩⟩⟩⟩⟩⟩⟩⟩⟩⟩⟩⟩⟩⟩⟩⟩⟩⟩⟩⟩⟩⟩⟩⟩⟩⟩⟩⟩⟩
def gx_Ts_15 : List Cond := [w_900, w_901, w_902, w_903, w_904, w_905, w_906, w_907, w_908, w_909, w_910, w_911, w_912, w_913, w_914, w_915, w_916, w_917, w_918, w_919, w_920, w_921, w_922, w_923, w_924, w_925, w_926, w_927, w_928, w_929, w_930, w_931, w_932, w_933, w_934, w_935, w_936, w_937, w_938, w_939, w_940, w_941, w_942, w_943, w_944, w_945, w_946, w_947, w_948, w_949, w_950, w_951, w_952, w_953, w_954, w_955, w_956, w_957, w_958, w_959]
theorem gx_Ts_i15 : ∀ w ∈ gx_Ts_15, w ∈ lw_tbl := List.forall_mem_cons.mpr ⟨lw_inT (q_5 (List.mem_of_getElem? (i := 51) rfl)), List.forall_mem_cons.mpr ⟨lw_inT (q_5 (List.mem_of_getElem? (i := 52) rfl)), List.forall_mem_cons.mpr ⟨lw_inT (q_5 (List.mem_of_getElem? (i := 54) rfl)), List.forall_mem_cons.mpr ⟨lw_inT (q_5 (List.mem_of_getElem? (i := 55) rfl)), List.forall_mem_cons.mpr ⟨lw_inT (q_5 (List.mem_of_getElem? (i := 56) rfl)), List.forall_mem_cons.mpr ⟨lw_inT (q_5 (List.mem_of_getElem? (i := 58) rfl)), List.forall_mem_cons.mpr ⟨lw_inT (q_5 (List.mem_of_getElem? (i := 59) rfl)), List.forall_mem_cons.mpr ⟨lw_inT (q_5 (List.mem_of_getElem? (i := 60) rfl)), List.forall_mem_cons.mpr ⟨lw_inT (q_5 (List.mem_of_getElem? (i := 62) rfl)), List.forall_mem_cons.mpr ⟨lw_inT (q_5 (List.mem_of_getElem? (i := 63) rfl)), List.forall_mem_cons.mpr ⟨lw_inT (q_5 (List.mem_of_getElem? (i := 64) rfl)), List.forall_mem_cons.mpr ⟨lw_inT (q_5 (List.mem_of_getElem? (i := 66) rfl)), List.forall_mem_cons.mpr ⟨lw_inT (q_5 (List.mem_of_getElem? (i := 67) rfl)), List.forall_mem_cons.mpr ⟨lw_inT (q_5 (List.mem_of_getElem? (i := 68) rfl)), List.forall_mem_cons.mpr ⟨lw_inT (q_5 (List.mem_of_getElem? (i := 70) rfl)), List.forall_mem_cons.mpr ⟨lw_inT (q_5 (List.mem_of_getElem? (i := 71) rfl)), List.forall_mem_cons.mpr ⟨lw_inT (q_5 (List.mem_of_getElem? (i := 72) rfl)), List.forall_mem_cons.mpr ⟨lw_inT (q_5 (List.mem_of_getElem? (i := 74) rfl)), List.forall_mem_cons.mpr ⟨lw_inT (q_5 (List.mem_of_getElem? (i := 75) rfl)), List.forall_mem_cons.mpr ⟨lw_inT (q_5 (List.mem_of_getElem? (i := 76) rfl)), List.forall_mem_cons.mpr ⟨lw_inT (q_5 (List.mem_of_getElem? (i := 78) rfl)), List.forall_mem_cons.mpr ⟨lw_inT (q_5 (List.mem_of_getElem? (i := 79) rfl)), List.forall_mem_cons.mpr ⟨lw_inT (q_5 (List.mem_of_getElem? (i := 80) rfl)), List.forall_mem_cons.mpr ⟨lw_inT (q_5 (List.mem_of_getElem? (i := 82) rfl)), List.forall_mem_cons.mpr ⟨lw_inT (q_5 (List.mem_of_getElem? (i := 83) rfl)), List.forall_mem_cons.mpr ⟨lw_inT (q_5 (List.mem_of_getElem? (i := 84) rfl)), List.forall_mem_cons.mpr ⟨lw_inT (q_5 (List.mem_of_getElem? (i := 86) rfl)), List.forall_mem_cons.mpr ⟨lw_inT (q_5 (List.mem_of_getElem? (i := 87) rfl)), List.forall_mem_cons.mpr ⟨lw_inT (q_5 (List.mem_of_getElem? (i := 88) rfl)), List.forall_mem_cons.mpr ⟨lw_inT (q_5 (List.mem_of_getElem? (i := 90) rfl)), List.forall_mem_cons.mpr ⟨lw_inT (q_5 (List.mem_of_getElem? (i := 91) rfl)), List.forall_mem_cons.mpr ⟨lw_inT (q_5 (List.mem_of_getElem? (i := 92) rfl)), List.forall_mem_cons.mpr ⟨lw_inT (q_5 (List.mem_of_getElem? (i := 94) rfl)), List.forall_mem_cons.mpr ⟨lw_inT (q_5 (List.mem_of_getElem? (i := 95) rfl)), List.forall_mem_cons.mpr ⟨lw_inT (q_5 (List.mem_of_getElem? (i := 96) rfl)), List.forall_mem_cons.mpr ⟨lw_inT (q_5 (List.mem_of_getElem? (i := 98) rfl)), List.forall_mem_cons.mpr ⟨lw_inT (q_5 (List.mem_of_getElem? (i := 99) rfl)), List.forall_mem_cons.mpr ⟨lw_inT (q_5 (List.mem_of_getElem? (i := 100) rfl)), List.forall_mem_cons.mpr ⟨lw_inT (q_5 (List.mem_of_getElem? (i := 101) rfl)), List.forall_mem_cons.mpr ⟨lw_inT (q_5 (List.mem_of_getElem? (i := 102) rfl)), List.forall_mem_cons.mpr ⟨lw_inT (q_5 (List.mem_of_getElem? (i := 103) rfl)), List.forall_mem_cons.mpr ⟨lw_inT (q_5 (List.mem_of_getElem? (i := 104) rfl)), List.forall_mem_cons.mpr ⟨lw_inT (q_5 (List.mem_of_getElem? (i := 105) rfl)), List.forall_mem_cons.mpr ⟨lw_inT (q_5 (List.mem_of_getElem? (i := 106) rfl)), List.forall_mem_cons.mpr ⟨lw_inT (q_5 (List.mem_of_getElem? (i := 108) rfl)), List.forall_mem_cons.mpr ⟨lw_inT (q_5 (List.mem_of_getElem? (i := 109) rfl)), List.forall_mem_cons.mpr ⟨lw_inT (q_5 (List.mem_of_getElem? (i := 110) rfl)), List.forall_mem_cons.mpr ⟨lw_inT (q_5 (List.mem_of_getElem? (i := 112) rfl)), List.forall_mem_cons.mpr ⟨lw_inT (q_5 (List.mem_of_getElem? (i := 113) rfl)), List.forall_mem_cons.mpr ⟨lw_inT (q_5 (List.mem_of_getElem? (i := 114) rfl)), List.forall_mem_cons.mpr ⟨lw_inT (q_5 (List.mem_of_getElem? (i := 116) rfl)), List.forall_mem_cons.mpr ⟨lw_inT (q_5 (List.mem_of_getElem? (i := 117) rfl)), List.forall_mem_cons.mpr ⟨lw_inT (q_5 (List.mem_of_getElem? (i := 118) rfl)), List.forall_mem_cons.mpr ⟨lw_inT (q_5 (List.mem_of_getElem? (i := 120) rfl)), List.forall_mem_cons.mpr ⟨lw_inT (q_5 (List.mem_of_getElem? (i := 121) rfl)), List.forall_mem_cons.mpr ⟨lw_inT (q_5 (List.mem_of_getElem? (i := 122) rfl)), List.forall_mem_cons.mpr ⟨lw_inT (q_5 (List.mem_of_getElem? (i := 124) rfl)), List.forall_mem_cons.mpr ⟨lw_inT (q_5 (List.mem_of_getElem? (i := 125) rfl)), List.forall_mem_cons.mpr ⟨lw_inT (q_5 (List.mem_of_getElem? (i := 126) rfl)), List.forall_mem_cons.mpr ⟨lw_inT (q_5 (List.mem_of_getElem? (i := 128) rfl)), fun _ h => absurd h List.not_mem_nil⟩⟩⟩⟩⟩⟩⟩⟩⟩⟩⟩⟩⟩⟩⟩⟩⟩⟩⟩⟩⟩⟩⟩⟩⟩⟩⟩⟩⟩⟩⟩⟩⟩⟩⟩⟩⟩⟩⟩⟩⟩⟩⟩⟩⟩⟩⟩⟩⟩⟩⟩⟩⟩⟩⟩⟩⟩⟩⟩⟩
def gx_Ts_16 : List Cond := [w_960, w_961, w_962, w_963, w_964, w_965, w_966, w_967, w_968, w_969, w_970, w_971, w_972, w_973, w_974, w_975, w_976, w_977, w_978, w_979, w_980, w_981, w_982, w_983, w_984, w_985, w_986, w_987, w_988, w_989, w_990, w_991, w_992, w_993, w_994, w_995, w_996, w_997, w_998, w_999, w_1000, w_1001, w_1002, w_1003, w_1004, w_1005, w_1006, w_1007, w_1008, w_1009, w_1010, w_1011, w_1012, w_1013, w_1014, w_1015, w_1016, w_1017, w_1018, w_1019]
theorem gx_Ts_i16 : ∀ w ∈ gx_Ts_16, w ∈ lw_tbl := List.forall_mem_cons.mpr ⟨lw_inT (q_5 (List.mem_of_getElem? (i := 129) rfl)), List.forall_mem_cons.mpr ⟨lw_inT (q_5 (List.mem_of_getElem? (i := 130) rfl)), List.forall_mem_cons.mpr ⟨lw_inT (q_5 (List.mem_of_getElem? (i := 132) rfl)), List.forall_mem_cons.mpr ⟨lw_inT (q_5 (List.mem_of_getElem? (i := 133) rfl)), List.forall_mem_cons.mpr ⟨lw_inT (q_5 (List.mem_of_getElem? (i := 134) rfl)), List.forall_mem_cons.mpr ⟨lw_inT (q_5 (List.mem_of_getElem? (i := 135) rfl)), List.forall_mem_cons.mpr ⟨lw_inT (q_5 (List.mem_of_getElem? (i := 136) rfl)), List.forall_mem_cons.mpr ⟨lw_inT (q_5 (List.mem_of_getElem? (i := 137) rfl)), List.forall_mem_cons.mpr ⟨lw_inT (q_5 (List.mem_of_getElem? (i := 138) rfl)), List.forall_mem_cons.mpr ⟨lw_inT (q_5 (List.mem_of_getElem? (i := 139) rfl)), List.forall_mem_cons.mpr ⟨lw_inT (q_5 (List.mem_of_getElem? (i := 140) rfl)), List.forall_mem_cons.mpr ⟨lw_inT (q_5 (List.mem_of_getElem? (i := 141) rfl)), List.forall_mem_cons.mpr ⟨lw_inT (q_5 (List.mem_of_getElem? (i := 142) rfl)), List.forall_mem_cons.mpr ⟨lw_inT (q_5 (List.mem_of_getElem? (i := 144) rfl)), List.forall_mem_cons.mpr ⟨lw_inT (q_5 (List.mem_of_getElem? (i := 145) rfl)), List.forall_mem_cons.mpr ⟨lw_inT (q_5 (List.mem_of_getElem? (i := 146) rfl)), List.forall_mem_cons.mpr ⟨lw_inT (q_5 (List.mem_of_getElem? (i := 147) rfl)), List.forall_mem_cons.mpr ⟨lw_inT (q_5 (List.mem_of_getElem? (i := 148) rfl)), List.forall_mem_cons.mpr ⟨lw_inT (q_5 (List.mem_of_getElem? (i := 149) rfl)), List.forall_mem_cons.mpr ⟨lw_inT (q_5 (List.mem_of_getElem? (i := 150) rfl)), List.forall_mem_cons.mpr ⟨lw_inT (q_5 (List.mem_of_getElem? (i := 151) rfl)), List.forall_mem_cons.mpr ⟨lw_inT (q_5 (List.mem_of_getElem? (i := 152) rfl)), List.forall_mem_cons.mpr ⟨lw_inT (q_5 (List.mem_of_getElem? (i := 153) rfl)), List.forall_mem_cons.mpr ⟨lw_inT (q_5 (List.mem_of_getElem? (i := 154) rfl)), List.forall_mem_cons.mpr ⟨lw_inT (q_5 (List.mem_of_getElem? (i := 156) rfl)), List.forall_mem_cons.mpr ⟨lw_inT (q_5 (List.mem_of_getElem? (i := 157) rfl)), List.forall_mem_cons.mpr ⟨lw_inT (q_5 (List.mem_of_getElem? (i := 158) rfl)), List.forall_mem_cons.mpr ⟨lw_inT (q_5 (List.mem_of_getElem? (i := 160) rfl)), List.forall_mem_cons.mpr ⟨lw_inT (q_5 (List.mem_of_getElem? (i := 161) rfl)), List.forall_mem_cons.mpr ⟨lw_inT (q_5 (List.mem_of_getElem? (i := 162) rfl)), List.forall_mem_cons.mpr ⟨lw_inT (q_5 (List.mem_of_getElem? (i := 164) rfl)), List.forall_mem_cons.mpr ⟨lw_inT (q_5 (List.mem_of_getElem? (i := 165) rfl)), List.forall_mem_cons.mpr ⟨lw_inT (q_5 (List.mem_of_getElem? (i := 166) rfl)), List.forall_mem_cons.mpr ⟨lw_inT (q_5 (List.mem_of_getElem? (i := 167) rfl)), List.forall_mem_cons.mpr ⟨lw_inT (q_5 (List.mem_of_getElem? (i := 169) rfl)), List.forall_mem_cons.mpr ⟨lw_inT (q_5 (List.mem_of_getElem? (i := 170) rfl)), List.forall_mem_cons.mpr ⟨lw_inT (q_5 (List.mem_of_getElem? (i := 171) rfl)), List.forall_mem_cons.mpr ⟨lw_inT (q_5 (List.mem_of_getElem? (i := 173) rfl)), List.forall_mem_cons.mpr ⟨lw_inT (q_5 (List.mem_of_getElem? (i := 174) rfl)), List.forall_mem_cons.mpr ⟨lw_inT (q_5 (List.mem_of_getElem? (i := 175) rfl)), List.forall_mem_cons.mpr ⟨lw_inT (q_5 (List.mem_of_getElem? (i := 177) rfl)), List.forall_mem_cons.mpr ⟨lw_inT (q_5 (List.mem_of_getElem? (i := 178) rfl)), List.forall_mem_cons.mpr ⟨lw_inT (q_5 (List.mem_of_getElem? (i := 179) rfl)), List.forall_mem_cons.mpr ⟨lw_inT (q_5 (List.mem_of_getElem? (i := 180) rfl)), List.forall_mem_cons.mpr ⟨lw_inT (q_5 (List.mem_of_getElem? (i := 181) rfl)), List.forall_mem_cons.mpr ⟨lw_inT (q_5 (List.mem_of_getElem? (i := 182) rfl)), List.forall_mem_cons.mpr ⟨lw_inT (q_5 (List.mem_of_getElem? (i := 183) rfl)), List.forall_mem_cons.mpr ⟨lw_inT (q_5 (List.mem_of_getElem? (i := 184) rfl)), List.forall_mem_cons.mpr ⟨lw_inT (q_5 (List.mem_of_getElem? (i := 185) rfl)), List.forall_mem_cons.mpr ⟨lw_inT (q_5 (List.mem_of_getElem? (i := 186) rfl)), List.forall_mem_cons.mpr ⟨lw_inT (q_5 (List.mem_of_getElem? (i := 187) rfl)), List.forall_mem_cons.mpr ⟨lw_inT (q_5 (List.mem_of_getElem? (i := 188) rfl)), List.forall_mem_cons.mpr ⟨lw_inT (q_5 (List.mem_of_getElem? (i := 189) rfl)), List.forall_mem_cons.mpr ⟨lw_inT (q_5 (List.mem_of_getElem? (i := 190) rfl)), List.forall_mem_cons.mpr ⟨lw_inT (q_5 (List.mem_of_getElem? (i := 191) rfl)), List.forall_mem_cons.mpr ⟨lw_inT (q_5 (List.mem_of_getElem? (i := 192) rfl)), List.forall_mem_cons.mpr ⟨lw_inT (q_5 (List.mem_of_getElem? (i := 193) rfl)), List.forall_mem_cons.mpr ⟨lw_inT (q_5 (List.mem_of_getElem? (i := 194) rfl)), List.forall_mem_cons.mpr ⟨lw_inT (q_5 (List.mem_of_getElem? (i := 195) rfl)), List.forall_mem_cons.mpr ⟨lw_inT (q_5 (List.mem_of_getElem? (i := 197) rfl)), fun _ h => absurd h List.not_mem_nil⟩⟩⟩⟩⟩⟩⟩⟩⟩⟩⟩⟩⟩⟩⟩⟩⟩⟩⟩⟩⟩⟩⟩⟩⟩⟩⟩⟩⟩⟩⟩⟩⟩⟩⟩⟩⟩⟩⟩⟩⟩⟩⟩⟩⟩⟩⟩⟩⟩⟩⟩⟩⟩⟩⟩⟩⟩⟩⟩⟩
def gx_Ts_17 : List Cond := [w_1020, w_1021, w_1022, w_1023, w_1024, w_1025, w_1026, w_1027, w_1028, w_1029, w_1030, w_1031, w_1032, w_1033, w_1034, w_1035, w_1036, w_1037, w_1038, w_1039, w_1040, w_1041, w_1042, w_1043, w_1044, w_1045, w_1046, w_1047, w_1048, w_1049, w_1050, w_1051, w_1052, w_1053, w_1054, w_1055, w_1056, w_1057, w_1058, w_1059, w_1060, w_1061, w_1062, w_1063, w_1064, w_1065, w_1066, w_1067, w_1068, w_1069, w_1070, w_1071, w_1072, w_1073, w_1074, w_1075, w_1076, w_1077, w_1078, w_1079]
theorem gx_Ts_i17 : ∀ w ∈ gx_Ts_17, w ∈ lw_tbl := List.forall_mem_cons.mpr ⟨lw_inT (q_5 (List.mem_of_getElem? (i := 198) rfl)), List.forall_mem_cons.mpr ⟨lw_inT (q_5 (List.mem_of_getElem? (i := 199) rfl)), List.forall_mem_cons.mpr ⟨lw_inT (q_5 (List.mem_of_getElem? (i := 201) rfl)), List.forall_mem_cons.mpr ⟨lw_inT (q_5 (List.mem_of_getElem? (i := 202) rfl)), List.forall_mem_cons.mpr ⟨lw_inT (q_5 (List.mem_of_getElem? (i := 203) rfl)), List.forall_mem_cons.mpr ⟨lw_inT (q_5 (List.mem_of_getElem? (i := 204) rfl)), List.forall_mem_cons.mpr ⟨lw_inT (q_5 (List.mem_of_getElem? (i := 205) rfl)), List.forall_mem_cons.mpr ⟨lw_inT (q_5 (List.mem_of_getElem? (i := 206) rfl)), List.forall_mem_cons.mpr ⟨lw_inT (q_5 (List.mem_of_getElem? (i := 208) rfl)), List.forall_mem_cons.mpr ⟨lw_inT (q_5 (List.mem_of_getElem? (i := 209) rfl)), List.forall_mem_cons.mpr ⟨lw_inT (q_5 (List.mem_of_getElem? (i := 210) rfl)), List.forall_mem_cons.mpr ⟨lw_inT (q_5 (List.mem_of_getElem? (i := 212) rfl)), List.forall_mem_cons.mpr ⟨lw_inT (q_5 (List.mem_of_getElem? (i := 213) rfl)), List.forall_mem_cons.mpr ⟨lw_inT (q_5 (List.mem_of_getElem? (i := 214) rfl)), List.forall_mem_cons.mpr ⟨lw_inT (q_5 (List.mem_of_getElem? (i := 216) rfl)), List.forall_mem_cons.mpr ⟨lw_inT (q_5 (List.mem_of_getElem? (i := 217) rfl)), List.forall_mem_cons.mpr ⟨lw_inT (q_5 (List.mem_of_getElem? (i := 218) rfl)), List.forall_mem_cons.mpr ⟨lw_inT (q_5 (List.mem_of_getElem? (i := 219) rfl)), List.forall_mem_cons.mpr ⟨lw_inT (q_5 (List.mem_of_getElem? (i := 220) rfl)), List.forall_mem_cons.mpr ⟨lw_inT (q_5 (List.mem_of_getElem? (i := 221) rfl)), List.forall_mem_cons.mpr ⟨lw_inT (q_5 (List.mem_of_getElem? (i := 222) rfl)), List.forall_mem_cons.mpr ⟨lw_inT (q_5 (List.mem_of_getElem? (i := 224) rfl)), List.forall_mem_cons.mpr ⟨lw_inT (q_5 (List.mem_of_getElem? (i := 225) rfl)), List.forall_mem_cons.mpr ⟨lw_inT (q_5 (List.mem_of_getElem? (i := 226) rfl)), List.forall_mem_cons.mpr ⟨lw_inT (q_5 (List.mem_of_getElem? (i := 228) rfl)), List.forall_mem_cons.mpr ⟨lw_inT (q_5 (List.mem_of_getElem? (i := 229) rfl)), List.forall_mem_cons.mpr ⟨lw_inT (q_5 (List.mem_of_getElem? (i := 230) rfl)), List.forall_mem_cons.mpr ⟨lw_inT (q_5 (List.mem_of_getElem? (i := 232) rfl)), List.forall_mem_cons.mpr ⟨lw_inT (q_5 (List.mem_of_getElem? (i := 233) rfl)), List.forall_mem_cons.mpr ⟨lw_inT (q_5 (List.mem_of_getElem? (i := 234) rfl)), List.forall_mem_cons.mpr ⟨lw_inT (q_5 (List.mem_of_getElem? (i := 235) rfl)), List.forall_mem_cons.mpr ⟨lw_inT (q_5 (List.mem_of_getElem? (i := 236) rfl)), List.forall_mem_cons.mpr ⟨lw_inT (q_5 (List.mem_of_getElem? (i := 237) rfl)), List.forall_mem_cons.mpr ⟨lw_inT (q_5 (List.mem_of_getElem? (i := 239) rfl)), List.forall_mem_cons.mpr ⟨lw_inT (q_6 (List.mem_of_getElem? (i := 0) rfl)), List.forall_mem_cons.mpr ⟨lw_inT (q_6 (List.mem_of_getElem? (i := 1) rfl)), List.forall_mem_cons.mpr ⟨lw_inT (q_6 (List.mem_of_getElem? (i := 3) rfl)), List.forall_mem_cons.mpr ⟨lw_inT (q_6 (List.mem_of_getElem? (i := 4) rfl)), List.forall_mem_cons.mpr ⟨lw_inT (q_6 (List.mem_of_getElem? (i := 5) rfl)), List.forall_mem_cons.mpr ⟨lw_inT (q_6 (List.mem_of_getElem? (i := 7) rfl)), List.forall_mem_cons.mpr ⟨lw_inT (q_6 (List.mem_of_getElem? (i := 8) rfl)), List.forall_mem_cons.mpr ⟨lw_inT (q_6 (List.mem_of_getElem? (i := 9) rfl)), List.forall_mem_cons.mpr ⟨lw_inT (q_6 (List.mem_of_getElem? (i := 11) rfl)), List.forall_mem_cons.mpr ⟨lw_inT (q_6 (List.mem_of_getElem? (i := 12) rfl)), List.forall_mem_cons.mpr ⟨lw_inT (q_6 (List.mem_of_getElem? (i := 13) rfl)), List.forall_mem_cons.mpr ⟨lw_inT (q_6 (List.mem_of_getElem? (i := 15) rfl)), List.forall_mem_cons.mpr ⟨lw_inT (q_6 (List.mem_of_getElem? (i := 16) rfl)), List.forall_mem_cons.mpr ⟨lw_inT (q_6 (List.mem_of_getElem? (i := 17) rfl)), List.forall_mem_cons.mpr ⟨lw_inT (q_6 (List.mem_of_getElem? (i := 19) rfl)), List.forall_mem_cons.mpr ⟨lw_inT (q_6 (List.mem_of_getElem? (i := 20) rfl)), List.forall_mem_cons.mpr ⟨lw_inT (q_6 (List.mem_of_getElem? (i := 21) rfl)), List.forall_mem_cons.mpr ⟨lw_inT (q_6 (List.mem_of_getElem? (i := 23) rfl)), List.forall_mem_cons.mpr ⟨lw_inT (q_6 (List.mem_of_getElem? (i := 24) rfl)), List.forall_mem_cons.mpr ⟨lw_inT (q_6 (List.mem_of_getElem? (i := 25) rfl)), List.forall_mem_cons.mpr ⟨lw_inT (q_6 (List.mem_of_getElem? (i := 27) rfl)), List.forall_mem_cons.mpr ⟨lw_inT (q_6 (List.mem_of_getElem? (i := 28) rfl)), List.forall_mem_cons.mpr ⟨lw_inT (q_6 (List.mem_of_getElem? (i := 29) rfl)), List.forall_mem_cons.mpr ⟨lw_inT (q_6 (List.mem_of_getElem? (i := 30) rfl)), List.forall_mem_cons.mpr ⟨lw_inT (q_6 (List.mem_of_getElem? (i := 31) rfl)), List.forall_mem_cons.mpr ⟨lw_inT (q_6 (List.mem_of_getElem? (i := 32) rfl)), fun _ h => absurd h List.not_mem_nil⟩⟩⟩⟩⟩⟩⟩⟩⟩⟩⟩⟩⟩⟩⟩⟩⟩⟩⟩⟩⟩⟩⟩⟩⟩⟩⟩⟩⟩⟩⟩⟩⟩⟩⟩⟩⟩⟩⟩⟩⟩⟩⟩⟩⟩⟩⟩⟩⟩⟩⟩⟩⟩⟩⟩⟩⟩⟩⟩⟩
def gx_Ts_18 : List Cond := [w_1080, w_1081, w_1082, w_1083, w_1084, w_1085, w_1086, w_1087, w_1088, w_1089, w_1090, w_1091, w_1092, w_1093, w_1094, w_1095, w_1096, w_1097, w_1098, w_1099, w_1100, w_1101, w_1102, w_1103, w_1104, w_1105, w_1106, w_1107, w_1108, w_1109, w_1110, w_1111, w_1112, w_1113, w_1114, w_1115, w_1116, w_1117, w_1118, w_1119, w_1120, w_1121, w_1122, w_1123, w_1124, w_1125, w_1126, w_1127, w_1128, w_1129, w_1130, w_1131]
theorem gx_Ts_i18 : ∀ w ∈ gx_Ts_18, w ∈ lw_tbl := List.forall_mem_cons.mpr ⟨lw_inT (q_6 (List.mem_of_getElem? (i := 33) rfl)), List.forall_mem_cons.mpr ⟨lw_inT (q_6 (List.mem_of_getElem? (i := 34) rfl)), List.forall_mem_cons.mpr ⟨lw_inT (q_6 (List.mem_of_getElem? (i := 35) rfl)), List.forall_mem_cons.mpr ⟨lw_inT (q_6 (List.mem_of_getElem? (i := 36) rfl)), List.forall_mem_cons.mpr ⟨lw_inT (q_6 (List.mem_of_getElem? (i := 37) rfl)), List.forall_mem_cons.mpr ⟨lw_inT (q_6 (List.mem_of_getElem? (i := 38) rfl)), List.forall_mem_cons.mpr ⟨lw_inT (q_6 (List.mem_of_getElem? (i := 39) rfl)), List.forall_mem_cons.mpr ⟨lw_inT (q_6 (List.mem_of_getElem? (i := 40) rfl)), List.forall_mem_cons.mpr ⟨lw_inT (q_6 (List.mem_of_getElem? (i := 41) rfl)), List.forall_mem_cons.mpr ⟨lw_inT (q_6 (List.mem_of_getElem? (i := 43) rfl)), List.forall_mem_cons.mpr ⟨lw_inT (q_6 (List.mem_of_getElem? (i := 44) rfl)), List.forall_mem_cons.mpr ⟨lw_inT (q_6 (List.mem_of_getElem? (i := 45) rfl)), List.forall_mem_cons.mpr ⟨lw_inT (q_6 (List.mem_of_getElem? (i := 47) rfl)), List.forall_mem_cons.mpr ⟨lw_inT (q_6 (List.mem_of_getElem? (i := 48) rfl)), List.forall_mem_cons.mpr ⟨lw_inT (q_6 (List.mem_of_getElem? (i := 49) rfl)), List.forall_mem_cons.mpr ⟨lw_inT (q_6 (List.mem_of_getElem? (i := 50) rfl)), List.forall_mem_cons.mpr ⟨lw_inT (q_6 (List.mem_of_getElem? (i := 51) rfl)), List.forall_mem_cons.mpr ⟨lw_inT (q_6 (List.mem_of_getElem? (i := 52) rfl)), List.forall_mem_cons.mpr ⟨lw_inT (q_6 (List.mem_of_getElem? (i := 53) rfl)), List.forall_mem_cons.mpr ⟨lw_inT (q_6 (List.mem_of_getElem? (i := 54) rfl)), List.forall_mem_cons.mpr ⟨lw_inT (q_6 (List.mem_of_getElem? (i := 55) rfl)), List.forall_mem_cons.mpr ⟨lw_inT (q_6 (List.mem_of_getElem? (i := 56) rfl)), List.forall_mem_cons.mpr ⟨lw_inT (q_6 (List.mem_of_getElem? (i := 57) rfl)), List.forall_mem_cons.mpr ⟨lw_inT (q_6 (List.mem_of_getElem? (i := 59) rfl)), List.forall_mem_cons.mpr ⟨lw_inT (q_6 (List.mem_of_getElem? (i := 60) rfl)), List.forall_mem_cons.mpr ⟨lw_inT (q_6 (List.mem_of_getElem? (i := 61) rfl)), List.forall_mem_cons.mpr ⟨lw_inT (q_6 (List.mem_of_getElem? (i := 63) rfl)), List.forall_mem_cons.mpr ⟨lw_inT (q_6 (List.mem_of_getElem? (i := 64) rfl)), List.forall_mem_cons.mpr ⟨lw_inT (q_6 (List.mem_of_getElem? (i := 65) rfl)), List.forall_mem_cons.mpr ⟨lw_inT (q_6 (List.mem_of_getElem? (i := 67) rfl)), List.forall_mem_cons.mpr ⟨lw_inT (q_6 (List.mem_of_getElem? (i := 68) rfl)), List.forall_mem_cons.mpr ⟨lw_inT (q_6 (List.mem_of_getElem? (i := 69) rfl)), List.forall_mem_cons.mpr ⟨lw_inT (q_6 (List.mem_of_getElem? (i := 71) rfl)), List.forall_mem_cons.mpr ⟨lw_inT (q_6 (List.mem_of_getElem? (i := 72) rfl)), List.forall_mem_cons.mpr ⟨lw_inT (q_6 (List.mem_of_getElem? (i := 73) rfl)), List.forall_mem_cons.mpr ⟨lw_inT (q_6 (List.mem_of_getElem? (i := 75) rfl)), List.forall_mem_cons.mpr ⟨lw_inT (q_6 (List.mem_of_getElem? (i := 76) rfl)), List.forall_mem_cons.mpr ⟨lw_inT (q_6 (List.mem_of_getElem? (i := 77) rfl)), List.forall_mem_cons.mpr ⟨lw_inT (q_6 (List.mem_of_getElem? (i := 78) rfl)), List.forall_mem_cons.mpr ⟨lw_inT (q_6 (List.mem_of_getElem? (i := 79) rfl)), List.forall_mem_cons.mpr ⟨lw_inT (q_6 (List.mem_of_getElem? (i := 80) rfl)), List.forall_mem_cons.mpr ⟨lw_inT (q_6 (List.mem_of_getElem? (i := 81) rfl)), List.forall_mem_cons.mpr ⟨lw_inT (q_6 (List.mem_of_getElem? (i := 82) rfl)), List.forall_mem_cons.mpr ⟨lw_inT (q_6 (List.mem_of_getElem? (i := 83) rfl)), List.forall_mem_cons.mpr ⟨lw_inT (q_6 (List.mem_of_getElem? (i := 84) rfl)), List.forall_mem_cons.mpr ⟨lw_inT (q_6 (List.mem_of_getElem? (i := 85) rfl)), List.forall_mem_cons.mpr ⟨lw_inT (q_6 (List.mem_of_getElem? (i := 86) rfl)), List.forall_mem_cons.mpr ⟨lw_inT (q_6 (List.mem_of_getElem? (i := 87) rfl)), List.forall_mem_cons.mpr ⟨lw_inT (q_6 (List.mem_of_getElem? (i := 88) rfl)), List.forall_mem_cons.mpr ⟨lw_inT (q_6 (List.mem_of_getElem? (i := 89) rfl)), List.forall_mem_cons.mpr ⟨lw_inT (q_6 (List.mem_of_getElem? (i := 90) rfl)), List.forall_mem_cons.mpr ⟨lw_inT (q_6 (List.mem_of_getElem? (i := 91) rfl)), fun _ h => absurd h List.not_mem_nil⟩⟩⟩⟩⟩⟩⟩⟩⟩⟩⟩⟩⟩⟩⟩⟩⟩⟩⟩⟩⟩⟩⟩⟩⟩⟩⟩⟩⟩⟩⟩⟩⟩⟩⟩⟩⟩⟩⟩⟩⟩⟩⟩⟩⟩⟩⟩⟩⟩⟩⟩⟩
def gx_Ts : List Cond := gx_Ts_0 ++ (gx_Ts_1 ++ (gx_Ts_2 ++ (gx_Ts_3 ++ (gx_Ts_4 ++ (gx_Ts_5 ++ (gx_Ts_6 ++ (gx_Ts_7 ++ (gx_Ts_8 ++ (gx_Ts_9 ++ (gx_Ts_10 ++ (gx_Ts_11 ++ (gx_Ts_12 ++ (gx_Ts_13 ++ (gx_Ts_14 ++ (gx_Ts_15 ++ (gx_Ts_16 ++ (gx_Ts_17 ++ (gx_Ts_18))))))))))))))))))
theorem gx_Ts_in : ∀ w ∈ gx_Ts, w ∈ lw_tbl := by
  show ∀ w ∈ gx_Ts_0 ++ (gx_Ts_1 ++ (gx_Ts_2 ++ (gx_Ts_3 ++ (gx_Ts_4 ++ (gx_Ts_5 ++ (gx_Ts_6 ++ (gx_Ts_7 ++ (gx_Ts_8 ++ (gx_Ts_9 ++ (gx_Ts_10 ++ (gx_Ts_11 ++ (gx_Ts_12 ++ (gx_Ts_13 ++ (gx_Ts_14 ++ (gx_Ts_15 ++ (gx_Ts_16 ++ (gx_Ts_17 ++ (gx_Ts_18)))))))))))))))))), w ∈ lw_tbl
  exact List.forall_mem_append.mpr ⟨gx_Ts_i0, List.forall_mem_append.mpr ⟨gx_Ts_i1, List.forall_mem_append.mpr ⟨gx_Ts_i2, List.forall_mem_append.mpr ⟨gx_Ts_i3, List.forall_mem_append.mpr ⟨gx_Ts_i4, List.forall_mem_append.mpr ⟨gx_Ts_i5, List.forall_mem_append.mpr ⟨gx_Ts_i6, List.forall_mem_append.mpr ⟨gx_Ts_i7, List.forall_mem_append.mpr ⟨gx_Ts_i8, List.forall_mem_append.mpr ⟨gx_Ts_i9, List.forall_mem_append.mpr ⟨gx_Ts_i10, List.forall_mem_append.mpr ⟨gx_Ts_i11, List.forall_mem_append.mpr ⟨gx_Ts_i12, List.forall_mem_append.mpr ⟨gx_Ts_i13, List.forall_mem_append.mpr ⟨gx_Ts_i14, List.forall_mem_append.mpr ⟨gx_Ts_i15, List.forall_mem_append.mpr ⟨gx_Ts_i16, List.forall_mem_append.mpr ⟨gx_Ts_i17, gx_Ts_i18⟩⟩⟩⟩⟩⟩⟩⟩⟩⟩⟩⟩⟩⟩⟩⟩⟩⟩
theorem gx_Ts_c0 {w : Cond} (h : w ∈ gx_Ts_0) : w ∈ gx_Ts := List.mem_append_left _ h
theorem gx_Ts_c1 {w : Cond} (h : w ∈ gx_Ts_1) : w ∈ gx_Ts := List.mem_append_right _ (List.mem_append_left _ h)
theorem gx_Ts_c2 {w : Cond} (h : w ∈ gx_Ts_2) : w ∈ gx_Ts := List.mem_append_right _ (List.mem_append_right _ (List.mem_append_left _ h))
theorem gx_Ts_c3 {w : Cond} (h : w ∈ gx_Ts_3) : w ∈ gx_Ts := List.mem_append_right _ (List.mem_append_right _ (List.mem_append_right _ (List.mem_append_left _ h)))
theorem gx_Ts_c4 {w : Cond} (h : w ∈ gx_Ts_4) : w ∈ gx_Ts := List.mem_append_right _ (List.mem_append_right _ (List.mem_append_right _ (List.mem_append_right _ (List.mem_append_left _ h))))
theorem gx_Ts_c5 {w : Cond} (h : w ∈ gx_Ts_5) : w ∈ gx_Ts := List.mem_append_right _ (List.mem_append_right _ (List.mem_append_right _ (List.mem_append_right _ (List.mem_append_right _ (List.mem_append_left _ h)))))
theorem gx_Ts_c6 {w : Cond} (h : w ∈ gx_Ts_6) : w ∈ gx_Ts := List.mem_append_right _ (List.mem_append_right _ (List.mem_append_right _ (List.mem_append_right _ (List.mem_append_right _ (List.mem_append_right _ (List.mem_append_left _ h))))))
theorem gx_Ts_c7 {w : Cond} (h : w ∈ gx_Ts_7) : w ∈ gx_Ts := List.mem_append_right _ (List.mem_append_right _ (List.mem_append_right _ (List.mem_append_right _ (List.mem_append_right _ (List.mem_append_right _ (List.mem_append_right _ (List.mem_append_left _ h)))))))
theorem gx_Ts_c8 {w : Cond} (h : w ∈ gx_Ts_8) : w ∈ gx_Ts := List.mem_append_right _ (List.mem_append_right _ (List.mem_append_right _ (List.mem_append_right _ (List.mem_append_right _ (List.mem_append_right _ (List.mem_append_right _ (List.mem_append_right _ (List.mem_append_left _ h))))))))
theorem gx_Ts_c9 {w : Cond} (h : w ∈ gx_Ts_9) : w ∈ gx_Ts := List.mem_append_right _ (List.mem_append_right _ (List.mem_append_right _ (List.mem_append_right _ (List.mem_append_right _ (List.mem_append_right _ (List.mem_append_right _ (List.mem_append_right _ (List.mem_append_right _ (List.mem_append_left _ h)))))))))
theorem gx_Ts_c10 {w : Cond} (h : w ∈ gx_Ts_10) : w ∈ gx_Ts := List.mem_append_right _ (List.mem_append_right _ (List.mem_append_right _ (List.mem_append_right _ (List.mem_append_right _ (List.mem_append_right _ (List.mem_append_right _ (List.mem_append_right _ (List.mem_append_right _ (List.mem_append_right _ (List.mem_append_left _ h))))))))))
theorem gx_Ts_c11 {w : Cond} (h : w ∈ gx_Ts_11) : w ∈ gx_Ts := List.mem_append_right _ (List.mem_append_right _ (List.mem_append_right _ (List.mem_append_right _ (List.mem_append_right _ (List.mem_append_right _ (List.mem_append_right _ (List.mem_append_right _ (List.mem_append_right _ (List.mem_append_right _ (List.mem_append_right _ (List.mem_append_left _ h)))))))))))
theorem gx_Ts_c12 {w : Cond} (h : w ∈ gx_Ts_12) : w ∈ gx_Ts := List.mem_append_right _ (List.mem_append_right _ (List.mem_append_right _ (List.mem_append_right _ (List.mem_append_right _ (List.mem_append_right _ (List.mem_append_right _ (List.mem_append_right _ (List.mem_append_right _ (List.mem_append_right _ (List.mem_append_right _ (List.mem_append_right _ (List.mem_append_left _ h))))))))))))
theorem gx_Ts_c13 {w : Cond} (h : w ∈ gx_Ts_13) : w ∈ gx_Ts := List.mem_append_right _ (List.mem_append_right _ (List.mem_append_right _ (List.mem_append_right _ (List.mem_append_right _ (List.mem_append_right _ (List.mem_append_right _ (List.mem_append_right _ (List.mem_append_right _ (List.mem_append_right _ (List.mem_append_right _ (List.mem_append_right _ (List.mem_append_right _ (List.mem_append_left _ h)))))))))))))
theorem gx_Ts_c14 {w : Cond} (h : w ∈ gx_Ts_14) : w ∈ gx_Ts := List.mem_append_right _ (List.mem_append_right _ (List.mem_append_right _ (List.mem_append_right _ (List.mem_append_right _ (List.mem_append_right _ (List.mem_append_right _ (List.mem_append_right _ (List.mem_append_right _ (List.mem_append_right _ (List.mem_append_right _ (List.mem_append_right _ (List.mem_append_right _ (List.mem_append_right _ (List.mem_append_left _ h))))))))))))))
theorem gx_Ts_c15 {w : Cond} (h : w ∈ gx_Ts_15) : w ∈ gx_Ts := List.mem_append_right _ (List.mem_append_right _ (List.mem_append_right _ (List.mem_append_right _ (List.mem_append_right _ (List.mem_append_right _ (List.mem_append_right _ (List.mem_append_right _ (List.mem_append_right _ (List.mem_append_right _ (List.mem_append_right _ (List.mem_append_right _ (List.mem_append_right _ (List.mem_append_right _ (List.mem_append_right _ (List.mem_append_left _ h)))))))))))))))
theorem gx_Ts_c16 {w : Cond} (h : w ∈ gx_Ts_16) : w ∈ gx_Ts := List.mem_append_right _ (List.mem_append_right _ (List.mem_append_right _ (List.mem_append_right _ (List.mem_append_right _ (List.mem_append_right _ (List.mem_append_right _ (List.mem_append_right _ (List.mem_append_right _ (List.mem_append_right _ (List.mem_append_right _ (List.mem_append_right _ (List.mem_append_right _ (List.mem_append_right _ (List.mem_append_right _ (List.mem_append_right _ (List.mem_append_left _ h))))))))))))))))
theorem gx_Ts_c17 {w : Cond} (h : w ∈ gx_Ts_17) : w ∈ gx_Ts := List.mem_append_right _ (List.mem_append_right _ (List.mem_append_right _ (List.mem_append_right _ (List.mem_append_right _ (List.mem_append_right _ (List.mem_append_right _ (List.mem_append_right _ (List.mem_append_right _ (List.mem_append_right _ (List.mem_append_right _ (List.mem_append_right _ (List.mem_append_right _ (List.mem_append_right _ (List.mem_append_right _ (List.mem_append_right _ (List.mem_append_right _ (List.mem_append_left _ h)))))))))))))))))
theorem gx_Ts_c18 {w : Cond} (h : w ∈ gx_Ts_18) : w ∈ gx_Ts := List.mem_append_right _ (List.mem_append_right _ (List.mem_append_right _ (List.mem_append_right _ (List.mem_append_right _ (List.mem_append_right _ (List.mem_append_right _ (List.mem_append_right _ (List.mem_append_right _ (List.mem_append_right _ (List.mem_append_right _ (List.mem_append_right _ (List.mem_append_right _ (List.mem_append_right _ (List.mem_append_right _ (List.mem_append_right _ (List.mem_append_right _ (List.mem_append_right _ (h))))))))))))))))))
theorem wt_0 : w_0 ∈ gx_Ts := gx_Ts_c0 (List.mem_of_getElem? (i := 0) rfl)
theorem wt_1 : w_1 ∈ gx_Ts := gx_Ts_c0 (List.mem_of_getElem? (i := 1) rfl)
theorem wt_2 : w_2 ∈ gx_Ts := gx_Ts_c0 (List.mem_of_getElem? (i := 2) rfl)
theorem wt_3 : w_3 ∈ gx_Ts := gx_Ts_c0 (List.mem_of_getElem? (i := 3) rfl)
theorem wt_4 : w_4 ∈ gx_Ts := gx_Ts_c0 (List.mem_of_getElem? (i := 4) rfl)
theorem wt_5 : w_5 ∈ gx_Ts := gx_Ts_c0 (List.mem_of_getElem? (i := 5) rfl)
theorem wt_6 : w_6 ∈ gx_Ts := gx_Ts_c0 (List.mem_of_getElem? (i := 6) rfl)
theorem wt_7 : w_7 ∈ gx_Ts := gx_Ts_c0 (List.mem_of_getElem? (i := 7) rfl)
theorem wt_8 : w_8 ∈ gx_Ts := gx_Ts_c0 (List.mem_of_getElem? (i := 8) rfl)
theorem wt_9 : w_9 ∈ gx_Ts := gx_Ts_c0 (List.mem_of_getElem? (i := 9) rfl)
theorem wt_10 : w_10 ∈ gx_Ts := gx_Ts_c0 (List.mem_of_getElem? (i := 10) rfl)
theorem wt_11 : w_11 ∈ gx_Ts := gx_Ts_c0 (List.mem_of_getElem? (i := 11) rfl)
theorem wt_12 : w_12 ∈ gx_Ts := gx_Ts_c0 (List.mem_of_getElem? (i := 12) rfl)
theorem wt_13 : w_13 ∈ gx_Ts := gx_Ts_c0 (List.mem_of_getElem? (i := 13) rfl)
theorem wt_14 : w_14 ∈ gx_Ts := gx_Ts_c0 (List.mem_of_getElem? (i := 14) rfl)
theorem wt_15 : w_15 ∈ gx_Ts := gx_Ts_c0 (List.mem_of_getElem? (i := 15) rfl)
theorem wt_16 : w_16 ∈ gx_Ts := gx_Ts_c0 (List.mem_of_getElem? (i := 16) rfl)
theorem wt_17 : w_17 ∈ gx_Ts := gx_Ts_c0 (List.mem_of_getElem? (i := 17) rfl)
theorem wt_18 : w_18 ∈ gx_Ts := gx_Ts_c0 (List.mem_of_getElem? (i := 18) rfl)
theorem wt_19 : w_19 ∈ gx_Ts := gx_Ts_c0 (List.mem_of_getElem? (i := 19) rfl)
theorem wt_20 : w_20 ∈ gx_Ts := gx_Ts_c0 (List.mem_of_getElem? (i := 20) rfl)
theorem wt_21 : w_21 ∈ gx_Ts := gx_Ts_c0 (List.mem_of_getElem? (i := 21) rfl)
theorem wt_22 : w_22 ∈ gx_Ts := gx_Ts_c0 (List.mem_of_getElem? (i := 22) rfl)
theorem wt_23 : w_23 ∈ gx_Ts := gx_Ts_c0 (List.mem_of_getElem? (i := 23) rfl)
theorem wt_24 : w_24 ∈ gx_Ts := gx_Ts_c0 (List.mem_of_getElem? (i := 24) rfl)
theorem wt_25 : w_25 ∈ gx_Ts := gx_Ts_c0 (List.mem_of_getElem? (i := 25) rfl)
theorem wt_26 : w_26 ∈ gx_Ts := gx_Ts_c0 (List.mem_of_getElem? (i := 26) rfl)
theorem wt_27 : w_27 ∈ gx_Ts := gx_Ts_c0 (List.mem_of_getElem? (i := 27) rfl)
theorem wt_28 : w_28 ∈ gx_Ts := gx_Ts_c0 (List.mem_of_getElem? (i := 28) rfl)
theorem wt_29 : w_29 ∈ gx_Ts := gx_Ts_c0 (List.mem_of_getElem? (i := 29) rfl)
theorem wt_30 : w_30 ∈ gx_Ts := gx_Ts_c0 (List.mem_of_getElem? (i := 30) rfl)
theorem wt_31 : w_31 ∈ gx_Ts := gx_Ts_c0 (List.mem_of_getElem? (i := 31) rfl)
theorem wt_32 : w_32 ∈ gx_Ts := gx_Ts_c0 (List.mem_of_getElem? (i := 32) rfl)
theorem wt_33 : w_33 ∈ gx_Ts := gx_Ts_c0 (List.mem_of_getElem? (i := 33) rfl)
theorem wt_34 : w_34 ∈ gx_Ts := gx_Ts_c0 (List.mem_of_getElem? (i := 34) rfl)
theorem wt_35 : w_35 ∈ gx_Ts := gx_Ts_c0 (List.mem_of_getElem? (i := 35) rfl)
theorem wt_36 : w_36 ∈ gx_Ts := gx_Ts_c0 (List.mem_of_getElem? (i := 36) rfl)
theorem wt_37 : w_37 ∈ gx_Ts := gx_Ts_c0 (List.mem_of_getElem? (i := 37) rfl)
theorem wt_38 : w_38 ∈ gx_Ts := gx_Ts_c0 (List.mem_of_getElem? (i := 38) rfl)
theorem wt_39 : w_39 ∈ gx_Ts := gx_Ts_c0 (List.mem_of_getElem? (i := 39) rfl)
theorem wt_40 : w_40 ∈ gx_Ts := gx_Ts_c0 (List.mem_of_getElem? (i := 40) rfl)
theorem wt_41 : w_41 ∈ gx_Ts := gx_Ts_c0 (List.mem_of_getElem? (i := 41) rfl)
theorem wt_42 : w_42 ∈ gx_Ts := gx_Ts_c0 (List.mem_of_getElem? (i := 42) rfl)
theorem wt_43 : w_43 ∈ gx_Ts := gx_Ts_c0 (List.mem_of_getElem? (i := 43) rfl)
theorem wt_44 : w_44 ∈ gx_Ts := gx_Ts_c0 (List.mem_of_getElem? (i := 44) rfl)
theorem wt_45 : w_45 ∈ gx_Ts := gx_Ts_c0 (List.mem_of_getElem? (i := 45) rfl)
theorem wt_46 : w_46 ∈ gx_Ts := gx_Ts_c0 (List.mem_of_getElem? (i := 46) rfl)
theorem wt_47 : w_47 ∈ gx_Ts := gx_Ts_c0 (List.mem_of_getElem? (i := 47) rfl)
theorem wt_48 : w_48 ∈ gx_Ts := gx_Ts_c0 (List.mem_of_getElem? (i := 48) rfl)
theorem wt_49 : w_49 ∈ gx_Ts := gx_Ts_c0 (List.mem_of_getElem? (i := 49) rfl)
theorem wt_50 : w_50 ∈ gx_Ts := gx_Ts_c0 (List.mem_of_getElem? (i := 50) rfl)
theorem wt_51 : w_51 ∈ gx_Ts := gx_Ts_c0 (List.mem_of_getElem? (i := 51) rfl)
theorem wt_52 : w_52 ∈ gx_Ts := gx_Ts_c0 (List.mem_of_getElem? (i := 52) rfl)
theorem wt_53 : w_53 ∈ gx_Ts := gx_Ts_c0 (List.mem_of_getElem? (i := 53) rfl)
theorem wt_54 : w_54 ∈ gx_Ts := gx_Ts_c0 (List.mem_of_getElem? (i := 54) rfl)
theorem wt_55 : w_55 ∈ gx_Ts := gx_Ts_c0 (List.mem_of_getElem? (i := 55) rfl)
theorem wt_56 : w_56 ∈ gx_Ts := gx_Ts_c0 (List.mem_of_getElem? (i := 56) rfl)
theorem wt_57 : w_57 ∈ gx_Ts := gx_Ts_c0 (List.mem_of_getElem? (i := 57) rfl)
theorem wt_58 : w_58 ∈ gx_Ts := gx_Ts_c0 (List.mem_of_getElem? (i := 58) rfl)
theorem wt_59 : w_59 ∈ gx_Ts := gx_Ts_c0 (List.mem_of_getElem? (i := 59) rfl)
theorem wt_60 : w_60 ∈ gx_Ts := gx_Ts_c1 (List.mem_of_getElem? (i := 0) rfl)
theorem wt_61 : w_61 ∈ gx_Ts := gx_Ts_c1 (List.mem_of_getElem? (i := 1) rfl)
theorem wt_62 : w_62 ∈ gx_Ts := gx_Ts_c1 (List.mem_of_getElem? (i := 2) rfl)
theorem wt_63 : w_63 ∈ gx_Ts := gx_Ts_c1 (List.mem_of_getElem? (i := 3) rfl)
theorem wt_64 : w_64 ∈ gx_Ts := gx_Ts_c1 (List.mem_of_getElem? (i := 4) rfl)
theorem wt_65 : w_65 ∈ gx_Ts := gx_Ts_c1 (List.mem_of_getElem? (i := 5) rfl)
theorem wt_66 : w_66 ∈ gx_Ts := gx_Ts_c1 (List.mem_of_getElem? (i := 6) rfl)
theorem wt_67 : w_67 ∈ gx_Ts := gx_Ts_c1 (List.mem_of_getElem? (i := 7) rfl)
theorem wt_68 : w_68 ∈ gx_Ts := gx_Ts_c1 (List.mem_of_getElem? (i := 8) rfl)
theorem wt_69 : w_69 ∈ gx_Ts := gx_Ts_c1 (List.mem_of_getElem? (i := 9) rfl)
theorem wt_70 : w_70 ∈ gx_Ts := gx_Ts_c1 (List.mem_of_getElem? (i := 10) rfl)
theorem wt_71 : w_71 ∈ gx_Ts := gx_Ts_c1 (List.mem_of_getElem? (i := 11) rfl)
theorem wt_72 : w_72 ∈ gx_Ts := gx_Ts_c1 (List.mem_of_getElem? (i := 12) rfl)
theorem wt_73 : w_73 ∈ gx_Ts := gx_Ts_c1 (List.mem_of_getElem? (i := 13) rfl)
theorem wt_74 : w_74 ∈ gx_Ts := gx_Ts_c1 (List.mem_of_getElem? (i := 14) rfl)
theorem wt_75 : w_75 ∈ gx_Ts := gx_Ts_c1 (List.mem_of_getElem? (i := 15) rfl)
theorem wt_76 : w_76 ∈ gx_Ts := gx_Ts_c1 (List.mem_of_getElem? (i := 16) rfl)
theorem wt_77 : w_77 ∈ gx_Ts := gx_Ts_c1 (List.mem_of_getElem? (i := 17) rfl)
theorem wt_78 : w_78 ∈ gx_Ts := gx_Ts_c1 (List.mem_of_getElem? (i := 18) rfl)
theorem wt_79 : w_79 ∈ gx_Ts := gx_Ts_c1 (List.mem_of_getElem? (i := 19) rfl)
theorem wt_80 : w_80 ∈ gx_Ts := gx_Ts_c1 (List.mem_of_getElem? (i := 20) rfl)
theorem wt_81 : w_81 ∈ gx_Ts := gx_Ts_c1 (List.mem_of_getElem? (i := 21) rfl)
theorem wt_82 : w_82 ∈ gx_Ts := gx_Ts_c1 (List.mem_of_getElem? (i := 22) rfl)
theorem wt_83 : w_83 ∈ gx_Ts := gx_Ts_c1 (List.mem_of_getElem? (i := 23) rfl)
theorem wt_84 : w_84 ∈ gx_Ts := gx_Ts_c1 (List.mem_of_getElem? (i := 24) rfl)
theorem wt_85 : w_85 ∈ gx_Ts := gx_Ts_c1 (List.mem_of_getElem? (i := 25) rfl)
theorem wt_86 : w_86 ∈ gx_Ts := gx_Ts_c1 (List.mem_of_getElem? (i := 26) rfl)
theorem wt_87 : w_87 ∈ gx_Ts := gx_Ts_c1 (List.mem_of_getElem? (i := 27) rfl)
theorem wt_88 : w_88 ∈ gx_Ts := gx_Ts_c1 (List.mem_of_getElem? (i := 28) rfl)
theorem wt_89 : w_89 ∈ gx_Ts := gx_Ts_c1 (List.mem_of_getElem? (i := 29) rfl)
theorem wt_90 : w_90 ∈ gx_Ts := gx_Ts_c1 (List.mem_of_getElem? (i := 30) rfl)
theorem wt_91 : w_91 ∈ gx_Ts := gx_Ts_c1 (List.mem_of_getElem? (i := 31) rfl)
theorem wt_92 : w_92 ∈ gx_Ts := gx_Ts_c1 (List.mem_of_getElem? (i := 32) rfl)
theorem wt_93 : w_93 ∈ gx_Ts := gx_Ts_c1 (List.mem_of_getElem? (i := 33) rfl)
theorem wt_94 : w_94 ∈ gx_Ts := gx_Ts_c1 (List.mem_of_getElem? (i := 34) rfl)
theorem wt_95 : w_95 ∈ gx_Ts := gx_Ts_c1 (List.mem_of_getElem? (i := 35) rfl)
theorem wt_96 : w_96 ∈ gx_Ts := gx_Ts_c1 (List.mem_of_getElem? (i := 36) rfl)
theorem wt_97 : w_97 ∈ gx_Ts := gx_Ts_c1 (List.mem_of_getElem? (i := 37) rfl)
theorem wt_98 : w_98 ∈ gx_Ts := gx_Ts_c1 (List.mem_of_getElem? (i := 38) rfl)
theorem wt_99 : w_99 ∈ gx_Ts := gx_Ts_c1 (List.mem_of_getElem? (i := 39) rfl)
theorem wt_100 : w_100 ∈ gx_Ts := gx_Ts_c1 (List.mem_of_getElem? (i := 40) rfl)
theorem wt_101 : w_101 ∈ gx_Ts := gx_Ts_c1 (List.mem_of_getElem? (i := 41) rfl)
theorem wt_102 : w_102 ∈ gx_Ts := gx_Ts_c1 (List.mem_of_getElem? (i := 42) rfl)
theorem wt_103 : w_103 ∈ gx_Ts := gx_Ts_c1 (List.mem_of_getElem? (i := 43) rfl)
theorem wt_104 : w_104 ∈ gx_Ts := gx_Ts_c1 (List.mem_of_getElem? (i := 44) rfl)
theorem wt_105 : w_105 ∈ gx_Ts := gx_Ts_c1 (List.mem_of_getElem? (i := 45) rfl)
theorem wt_106 : w_106 ∈ gx_Ts := gx_Ts_c1 (List.mem_of_getElem? (i := 46) rfl)
theorem wt_107 : w_107 ∈ gx_Ts := gx_Ts_c1 (List.mem_of_getElem? (i := 47) rfl)
theorem wt_108 : w_108 ∈ gx_Ts := gx_Ts_c1 (List.mem_of_getElem? (i := 48) rfl)
theorem wt_109 : w_109 ∈ gx_Ts := gx_Ts_c1 (List.mem_of_getElem? (i := 49) rfl)
theorem wt_110 : w_110 ∈ gx_Ts := gx_Ts_c1 (List.mem_of_getElem? (i := 50) rfl)
theorem wt_111 : w_111 ∈ gx_Ts := gx_Ts_c1 (List.mem_of_getElem? (i := 51) rfl)
theorem wt_112 : w_112 ∈ gx_Ts := gx_Ts_c1 (List.mem_of_getElem? (i := 52) rfl)
theorem wt_113 : w_113 ∈ gx_Ts := gx_Ts_c1 (List.mem_of_getElem? (i := 53) rfl)
theorem wt_114 : w_114 ∈ gx_Ts := gx_Ts_c1 (List.mem_of_getElem? (i := 54) rfl)
theorem wt_115 : w_115 ∈ gx_Ts := gx_Ts_c1 (List.mem_of_getElem? (i := 55) rfl)
theorem wt_116 : w_116 ∈ gx_Ts := gx_Ts_c1 (List.mem_of_getElem? (i := 56) rfl)
theorem wt_117 : w_117 ∈ gx_Ts := gx_Ts_c1 (List.mem_of_getElem? (i := 57) rfl)
theorem wt_118 : w_118 ∈ gx_Ts := gx_Ts_c1 (List.mem_of_getElem? (i := 58) rfl)
theorem wt_119 : w_119 ∈ gx_Ts := gx_Ts_c1 (List.mem_of_getElem? (i := 59) rfl)
theorem wt_120 : w_120 ∈ gx_Ts := gx_Ts_c2 (List.mem_of_getElem? (i := 0) rfl)
theorem wt_121 : w_121 ∈ gx_Ts := gx_Ts_c2 (List.mem_of_getElem? (i := 1) rfl)
theorem wt_122 : w_122 ∈ gx_Ts := gx_Ts_c2 (List.mem_of_getElem? (i := 2) rfl)
theorem wt_123 : w_123 ∈ gx_Ts := gx_Ts_c2 (List.mem_of_getElem? (i := 3) rfl)
theorem wt_124 : w_124 ∈ gx_Ts := gx_Ts_c2 (List.mem_of_getElem? (i := 4) rfl)
theorem wt_125 : w_125 ∈ gx_Ts := gx_Ts_c2 (List.mem_of_getElem? (i := 5) rfl)
theorem wt_126 : w_126 ∈ gx_Ts := gx_Ts_c2 (List.mem_of_getElem? (i := 6) rfl)
theorem wt_127 : w_127 ∈ gx_Ts := gx_Ts_c2 (List.mem_of_getElem? (i := 7) rfl)
theorem wt_128 : w_128 ∈ gx_Ts := gx_Ts_c2 (List.mem_of_getElem? (i := 8) rfl)
theorem wt_129 : w_129 ∈ gx_Ts := gx_Ts_c2 (List.mem_of_getElem? (i := 9) rfl)
theorem wt_130 : w_130 ∈ gx_Ts := gx_Ts_c2 (List.mem_of_getElem? (i := 10) rfl)
theorem wt_131 : w_131 ∈ gx_Ts := gx_Ts_c2 (List.mem_of_getElem? (i := 11) rfl)
theorem wt_132 : w_132 ∈ gx_Ts := gx_Ts_c2 (List.mem_of_getElem? (i := 12) rfl)
theorem wt_133 : w_133 ∈ gx_Ts := gx_Ts_c2 (List.mem_of_getElem? (i := 13) rfl)
theorem wt_134 : w_134 ∈ gx_Ts := gx_Ts_c2 (List.mem_of_getElem? (i := 14) rfl)
theorem wt_135 : w_135 ∈ gx_Ts := gx_Ts_c2 (List.mem_of_getElem? (i := 15) rfl)
theorem wt_136 : w_136 ∈ gx_Ts := gx_Ts_c2 (List.mem_of_getElem? (i := 16) rfl)
theorem wt_137 : w_137 ∈ gx_Ts := gx_Ts_c2 (List.mem_of_getElem? (i := 17) rfl)
theorem wt_138 : w_138 ∈ gx_Ts := gx_Ts_c2 (List.mem_of_getElem? (i := 18) rfl)
theorem wt_139 : w_139 ∈ gx_Ts := gx_Ts_c2 (List.mem_of_getElem? (i := 19) rfl)
theorem wt_140 : w_140 ∈ gx_Ts := gx_Ts_c2 (List.mem_of_getElem? (i := 20) rfl)
theorem wt_141 : w_141 ∈ gx_Ts := gx_Ts_c2 (List.mem_of_getElem? (i := 21) rfl)
theorem wt_142 : w_142 ∈ gx_Ts := gx_Ts_c2 (List.mem_of_getElem? (i := 22) rfl)
theorem wt_143 : w_143 ∈ gx_Ts := gx_Ts_c2 (List.mem_of_getElem? (i := 23) rfl)
theorem wt_144 : w_144 ∈ gx_Ts := gx_Ts_c2 (List.mem_of_getElem? (i := 24) rfl)
theorem wt_145 : w_145 ∈ gx_Ts := gx_Ts_c2 (List.mem_of_getElem? (i := 25) rfl)
theorem wt_146 : w_146 ∈ gx_Ts := gx_Ts_c2 (List.mem_of_getElem? (i := 26) rfl)
theorem wt_147 : w_147 ∈ gx_Ts := gx_Ts_c2 (List.mem_of_getElem? (i := 27) rfl)
theorem wt_148 : w_148 ∈ gx_Ts := gx_Ts_c2 (List.mem_of_getElem? (i := 28) rfl)
theorem wt_149 : w_149 ∈ gx_Ts := gx_Ts_c2 (List.mem_of_getElem? (i := 29) rfl)
theorem wt_150 : w_150 ∈ gx_Ts := gx_Ts_c2 (List.mem_of_getElem? (i := 30) rfl)
theorem wt_151 : w_151 ∈ gx_Ts := gx_Ts_c2 (List.mem_of_getElem? (i := 31) rfl)
theorem wt_152 : w_152 ∈ gx_Ts := gx_Ts_c2 (List.mem_of_getElem? (i := 32) rfl)
theorem wt_153 : w_153 ∈ gx_Ts := gx_Ts_c2 (List.mem_of_getElem? (i := 33) rfl)
theorem wt_154 : w_154 ∈ gx_Ts := gx_Ts_c2 (List.mem_of_getElem? (i := 34) rfl)
theorem wt_155 : w_155 ∈ gx_Ts := gx_Ts_c2 (List.mem_of_getElem? (i := 35) rfl)
theorem wt_156 : w_156 ∈ gx_Ts := gx_Ts_c2 (List.mem_of_getElem? (i := 36) rfl)
theorem wt_157 : w_157 ∈ gx_Ts := gx_Ts_c2 (List.mem_of_getElem? (i := 37) rfl)
theorem wt_158 : w_158 ∈ gx_Ts := gx_Ts_c2 (List.mem_of_getElem? (i := 38) rfl)
theorem wt_159 : w_159 ∈ gx_Ts := gx_Ts_c2 (List.mem_of_getElem? (i := 39) rfl)
theorem wt_160 : w_160 ∈ gx_Ts := gx_Ts_c2 (List.mem_of_getElem? (i := 40) rfl)
theorem wt_161 : w_161 ∈ gx_Ts := gx_Ts_c2 (List.mem_of_getElem? (i := 41) rfl)
theorem wt_162 : w_162 ∈ gx_Ts := gx_Ts_c2 (List.mem_of_getElem? (i := 42) rfl)
theorem wt_163 : w_163 ∈ gx_Ts := gx_Ts_c2 (List.mem_of_getElem? (i := 43) rfl)
theorem wt_164 : w_164 ∈ gx_Ts := gx_Ts_c2 (List.mem_of_getElem? (i := 44) rfl)
theorem wt_165 : w_165 ∈ gx_Ts := gx_Ts_c2 (List.mem_of_getElem? (i := 45) rfl)
theorem wt_166 : w_166 ∈ gx_Ts := gx_Ts_c2 (List.mem_of_getElem? (i := 46) rfl)
theorem wt_167 : w_167 ∈ gx_Ts := gx_Ts_c2 (List.mem_of_getElem? (i := 47) rfl)
theorem wt_168 : w_168 ∈ gx_Ts := gx_Ts_c2 (List.mem_of_getElem? (i := 48) rfl)
theorem wt_169 : w_169 ∈ gx_Ts := gx_Ts_c2 (List.mem_of_getElem? (i := 49) rfl)
theorem wt_170 : w_170 ∈ gx_Ts := gx_Ts_c2 (List.mem_of_getElem? (i := 50) rfl)
theorem wt_171 : w_171 ∈ gx_Ts := gx_Ts_c2 (List.mem_of_getElem? (i := 51) rfl)
theorem wt_172 : w_172 ∈ gx_Ts := gx_Ts_c2 (List.mem_of_getElem? (i := 52) rfl)
theorem wt_173 : w_173 ∈ gx_Ts := gx_Ts_c2 (List.mem_of_getElem? (i := 53) rfl)
theorem wt_174 : w_174 ∈ gx_Ts := gx_Ts_c2 (List.mem_of_getElem? (i := 54) rfl)
theorem wt_175 : w_175 ∈ gx_Ts := gx_Ts_c2 (List.mem_of_getElem? (i := 55) rfl)
theorem wt_176 : w_176 ∈ gx_Ts := gx_Ts_c2 (List.mem_of_getElem? (i := 56) rfl)
theorem wt_177 : w_177 ∈ gx_Ts := gx_Ts_c2 (List.mem_of_getElem? (i := 57) rfl)
theorem wt_178 : w_178 ∈ gx_Ts := gx_Ts_c2 (List.mem_of_getElem? (i := 58) rfl)
theorem wt_179 : w_179 ∈ gx_Ts := gx_Ts_c2 (List.mem_of_getElem? (i := 59) rfl)
theorem wt_180 : w_180 ∈ gx_Ts := gx_Ts_c3 (List.mem_of_getElem? (i := 0) rfl)
theorem wt_181 : w_181 ∈ gx_Ts := gx_Ts_c3 (List.mem_of_getElem? (i := 1) rfl)
theorem wt_182 : w_182 ∈ gx_Ts := gx_Ts_c3 (List.mem_of_getElem? (i := 2) rfl)
theorem wt_183 : w_183 ∈ gx_Ts := gx_Ts_c3 (List.mem_of_getElem? (i := 3) rfl)
theorem wt_184 : w_184 ∈ gx_Ts := gx_Ts_c3 (List.mem_of_getElem? (i := 4) rfl)
theorem wt_185 : w_185 ∈ gx_Ts := gx_Ts_c3 (List.mem_of_getElem? (i := 5) rfl)
theorem wt_186 : w_186 ∈ gx_Ts := gx_Ts_c3 (List.mem_of_getElem? (i := 6) rfl)
theorem wt_187 : w_187 ∈ gx_Ts := gx_Ts_c3 (List.mem_of_getElem? (i := 7) rfl)
theorem wt_188 : w_188 ∈ gx_Ts := gx_Ts_c3 (List.mem_of_getElem? (i := 8) rfl)
theorem wt_189 : w_189 ∈ gx_Ts := gx_Ts_c3 (List.mem_of_getElem? (i := 9) rfl)
theorem wt_190 : w_190 ∈ gx_Ts := gx_Ts_c3 (List.mem_of_getElem? (i := 10) rfl)
theorem wt_191 : w_191 ∈ gx_Ts := gx_Ts_c3 (List.mem_of_getElem? (i := 11) rfl)
theorem wt_192 : w_192 ∈ gx_Ts := gx_Ts_c3 (List.mem_of_getElem? (i := 12) rfl)
theorem wt_193 : w_193 ∈ gx_Ts := gx_Ts_c3 (List.mem_of_getElem? (i := 13) rfl)
theorem wt_194 : w_194 ∈ gx_Ts := gx_Ts_c3 (List.mem_of_getElem? (i := 14) rfl)
theorem wt_195 : w_195 ∈ gx_Ts := gx_Ts_c3 (List.mem_of_getElem? (i := 15) rfl)
theorem wt_196 : w_196 ∈ gx_Ts := gx_Ts_c3 (List.mem_of_getElem? (i := 16) rfl)
theorem wt_197 : w_197 ∈ gx_Ts := gx_Ts_c3 (List.mem_of_getElem? (i := 17) rfl)
theorem wt_198 : w_198 ∈ gx_Ts := gx_Ts_c3 (List.mem_of_getElem? (i := 18) rfl)
theorem wt_199 : w_199 ∈ gx_Ts := gx_Ts_c3 (List.mem_of_getElem? (i := 19) rfl)
theorem wt_200 : w_200 ∈ gx_Ts := gx_Ts_c3 (List.mem_of_getElem? (i := 20) rfl)
theorem wt_201 : w_201 ∈ gx_Ts := gx_Ts_c3 (List.mem_of_getElem? (i := 21) rfl)
theorem wt_202 : w_202 ∈ gx_Ts := gx_Ts_c3 (List.mem_of_getElem? (i := 22) rfl)
theorem wt_203 : w_203 ∈ gx_Ts := gx_Ts_c3 (List.mem_of_getElem? (i := 23) rfl)
theorem wt_204 : w_204 ∈ gx_Ts := gx_Ts_c3 (List.mem_of_getElem? (i := 24) rfl)
theorem wt_205 : w_205 ∈ gx_Ts := gx_Ts_c3 (List.mem_of_getElem? (i := 25) rfl)
theorem wt_206 : w_206 ∈ gx_Ts := gx_Ts_c3 (List.mem_of_getElem? (i := 26) rfl)
theorem wt_207 : w_207 ∈ gx_Ts := gx_Ts_c3 (List.mem_of_getElem? (i := 27) rfl)
theorem wt_208 : w_208 ∈ gx_Ts := gx_Ts_c3 (List.mem_of_getElem? (i := 28) rfl)
theorem wt_209 : w_209 ∈ gx_Ts := gx_Ts_c3 (List.mem_of_getElem? (i := 29) rfl)
theorem wt_210 : w_210 ∈ gx_Ts := gx_Ts_c3 (List.mem_of_getElem? (i := 30) rfl)
theorem wt_211 : w_211 ∈ gx_Ts := gx_Ts_c3 (List.mem_of_getElem? (i := 31) rfl)
theorem wt_212 : w_212 ∈ gx_Ts := gx_Ts_c3 (List.mem_of_getElem? (i := 32) rfl)
theorem wt_213 : w_213 ∈ gx_Ts := gx_Ts_c3 (List.mem_of_getElem? (i := 33) rfl)
theorem wt_214 : w_214 ∈ gx_Ts := gx_Ts_c3 (List.mem_of_getElem? (i := 34) rfl)
theorem wt_215 : w_215 ∈ gx_Ts := gx_Ts_c3 (List.mem_of_getElem? (i := 35) rfl)
theorem wt_216 : w_216 ∈ gx_Ts := gx_Ts_c3 (List.mem_of_getElem? (i := 36) rfl)
theorem wt_217 : w_217 ∈ gx_Ts := gx_Ts_c3 (List.mem_of_getElem? (i := 37) rfl)
theorem wt_218 : w_218 ∈ gx_Ts := gx_Ts_c3 (List.mem_of_getElem? (i := 38) rfl)
theorem wt_219 : w_219 ∈ gx_Ts := gx_Ts_c3 (List.mem_of_getElem? (i := 39) rfl)
theorem wt_220 : w_220 ∈ gx_Ts := gx_Ts_c3 (List.mem_of_getElem? (i := 40) rfl)
theorem wt_221 : w_221 ∈ gx_Ts := gx_Ts_c3 (List.mem_of_getElem? (i := 41) rfl)
theorem wt_222 : w_222 ∈ gx_Ts := gx_Ts_c3 (List.mem_of_getElem? (i := 42) rfl)
theorem wt_223 : w_223 ∈ gx_Ts := gx_Ts_c3 (List.mem_of_getElem? (i := 43) rfl)
theorem wt_224 : w_224 ∈ gx_Ts := gx_Ts_c3 (List.mem_of_getElem? (i := 44) rfl)
theorem wt_225 : w_225 ∈ gx_Ts := gx_Ts_c3 (List.mem_of_getElem? (i := 45) rfl)
theorem wt_226 : w_226 ∈ gx_Ts := gx_Ts_c3 (List.mem_of_getElem? (i := 46) rfl)
theorem wt_227 : w_227 ∈ gx_Ts := gx_Ts_c3 (List.mem_of_getElem? (i := 47) rfl)
theorem wt_228 : w_228 ∈ gx_Ts := gx_Ts_c3 (List.mem_of_getElem? (i := 48) rfl)
theorem wt_229 : w_229 ∈ gx_Ts := gx_Ts_c3 (List.mem_of_getElem? (i := 49) rfl)
theorem wt_230 : w_230 ∈ gx_Ts := gx_Ts_c3 (List.mem_of_getElem? (i := 50) rfl)
theorem wt_231 : w_231 ∈ gx_Ts := gx_Ts_c3 (List.mem_of_getElem? (i := 51) rfl)
theorem wt_232 : w_232 ∈ gx_Ts := gx_Ts_c3 (List.mem_of_getElem? (i := 52) rfl)
theorem wt_233 : w_233 ∈ gx_Ts := gx_Ts_c3 (List.mem_of_getElem? (i := 53) rfl)
theorem wt_234 : w_234 ∈ gx_Ts := gx_Ts_c3 (List.mem_of_getElem? (i := 54) rfl)
theorem wt_235 : w_235 ∈ gx_Ts := gx_Ts_c3 (List.mem_of_getElem? (i := 55) rfl)
theorem wt_236 : w_236 ∈ gx_Ts := gx_Ts_c3 (List.mem_of_getElem? (i := 56) rfl)
theorem wt_237 : w_237 ∈ gx_Ts := gx_Ts_c3 (List.mem_of_getElem? (i := 57) rfl)
theorem wt_238 : w_238 ∈ gx_Ts := gx_Ts_c3 (List.mem_of_getElem? (i := 58) rfl)
theorem wt_239 : w_239 ∈ gx_Ts := gx_Ts_c3 (List.mem_of_getElem? (i := 59) rfl)
theorem wt_240 : w_240 ∈ gx_Ts := gx_Ts_c4 (List.mem_of_getElem? (i := 0) rfl)
theorem wt_241 : w_241 ∈ gx_Ts := gx_Ts_c4 (List.mem_of_getElem? (i := 1) rfl)
theorem wt_242 : w_242 ∈ gx_Ts := gx_Ts_c4 (List.mem_of_getElem? (i := 2) rfl)
theorem wt_243 : w_243 ∈ gx_Ts := gx_Ts_c4 (List.mem_of_getElem? (i := 3) rfl)
theorem wt_244 : w_244 ∈ gx_Ts := gx_Ts_c4 (List.mem_of_getElem? (i := 4) rfl)
theorem wt_245 : w_245 ∈ gx_Ts := gx_Ts_c4 (List.mem_of_getElem? (i := 5) rfl)
theorem wt_246 : w_246 ∈ gx_Ts := gx_Ts_c4 (List.mem_of_getElem? (i := 6) rfl)
theorem wt_247 : w_247 ∈ gx_Ts := gx_Ts_c4 (List.mem_of_getElem? (i := 7) rfl)
theorem wt_248 : w_248 ∈ gx_Ts := gx_Ts_c4 (List.mem_of_getElem? (i := 8) rfl)
theorem wt_249 : w_249 ∈ gx_Ts := gx_Ts_c4 (List.mem_of_getElem? (i := 9) rfl)
theorem wt_250 : w_250 ∈ gx_Ts := gx_Ts_c4 (List.mem_of_getElem? (i := 10) rfl)
theorem wt_251 : w_251 ∈ gx_Ts := gx_Ts_c4 (List.mem_of_getElem? (i := 11) rfl)
theorem wt_252 : w_252 ∈ gx_Ts := gx_Ts_c4 (List.mem_of_getElem? (i := 12) rfl)
theorem wt_253 : w_253 ∈ gx_Ts := gx_Ts_c4 (List.mem_of_getElem? (i := 13) rfl)
theorem wt_254 : w_254 ∈ gx_Ts := gx_Ts_c4 (List.mem_of_getElem? (i := 14) rfl)
theorem wt_255 : w_255 ∈ gx_Ts := gx_Ts_c4 (List.mem_of_getElem? (i := 15) rfl)
theorem wt_256 : w_256 ∈ gx_Ts := gx_Ts_c4 (List.mem_of_getElem? (i := 16) rfl)
theorem wt_257 : w_257 ∈ gx_Ts := gx_Ts_c4 (List.mem_of_getElem? (i := 17) rfl)
theorem wt_258 : w_258 ∈ gx_Ts := gx_Ts_c4 (List.mem_of_getElem? (i := 18) rfl)
theorem wt_259 : w_259 ∈ gx_Ts := gx_Ts_c4 (List.mem_of_getElem? (i := 19) rfl)
theorem wt_260 : w_260 ∈ gx_Ts := gx_Ts_c4 (List.mem_of_getElem? (i := 20) rfl)
theorem wt_261 : w_261 ∈ gx_Ts := gx_Ts_c4 (List.mem_of_getElem? (i := 21) rfl)
theorem wt_262 : w_262 ∈ gx_Ts := gx_Ts_c4 (List.mem_of_getElem? (i := 22) rfl)
theorem wt_263 : w_263 ∈ gx_Ts := gx_Ts_c4 (List.mem_of_getElem? (i := 23) rfl)
theorem wt_264 : w_264 ∈ gx_Ts := gx_Ts_c4 (List.mem_of_getElem? (i := 24) rfl)
theorem wt_265 : w_265 ∈ gx_Ts := gx_Ts_c4 (List.mem_of_getElem? (i := 25) rfl)
theorem wt_266 : w_266 ∈ gx_Ts := gx_Ts_c4 (List.mem_of_getElem? (i := 26) rfl)
theorem wt_267 : w_267 ∈ gx_Ts := gx_Ts_c4 (List.mem_of_getElem? (i := 27) rfl)
theorem wt_268 : w_268 ∈ gx_Ts := gx_Ts_c4 (List.mem_of_getElem? (i := 28) rfl)
theorem wt_269 : w_269 ∈ gx_Ts := gx_Ts_c4 (List.mem_of_getElem? (i := 29) rfl)
theorem wt_270 : w_270 ∈ gx_Ts := gx_Ts_c4 (List.mem_of_getElem? (i := 30) rfl)
theorem wt_271 : w_271 ∈ gx_Ts := gx_Ts_c4 (List.mem_of_getElem? (i := 31) rfl)
theorem wt_272 : w_272 ∈ gx_Ts := gx_Ts_c4 (List.mem_of_getElem? (i := 32) rfl)
theorem wt_273 : w_273 ∈ gx_Ts := gx_Ts_c4 (List.mem_of_getElem? (i := 33) rfl)
theorem wt_274 : w_274 ∈ gx_Ts := gx_Ts_c4 (List.mem_of_getElem? (i := 34) rfl)
theorem wt_275 : w_275 ∈ gx_Ts := gx_Ts_c4 (List.mem_of_getElem? (i := 35) rfl)
theorem wt_276 : w_276 ∈ gx_Ts := gx_Ts_c4 (List.mem_of_getElem? (i := 36) rfl)
theorem wt_277 : w_277 ∈ gx_Ts := gx_Ts_c4 (List.mem_of_getElem? (i := 37) rfl)
theorem wt_278 : w_278 ∈ gx_Ts := gx_Ts_c4 (List.mem_of_getElem? (i := 38) rfl)
theorem wt_279 : w_279 ∈ gx_Ts := gx_Ts_c4 (List.mem_of_getElem? (i := 39) rfl)
theorem wt_280 : w_280 ∈ gx_Ts := gx_Ts_c4 (List.mem_of_getElem? (i := 40) rfl)
theorem wt_281 : w_281 ∈ gx_Ts := gx_Ts_c4 (List.mem_of_getElem? (i := 41) rfl)
theorem wt_282 : w_282 ∈ gx_Ts := gx_Ts_c4 (List.mem_of_getElem? (i := 42) rfl)
theorem wt_283 : w_283 ∈ gx_Ts := gx_Ts_c4 (List.mem_of_getElem? (i := 43) rfl)
theorem wt_284 : w_284 ∈ gx_Ts := gx_Ts_c4 (List.mem_of_getElem? (i := 44) rfl)
theorem wt_285 : w_285 ∈ gx_Ts := gx_Ts_c4 (List.mem_of_getElem? (i := 45) rfl)
theorem wt_286 : w_286 ∈ gx_Ts := gx_Ts_c4 (List.mem_of_getElem? (i := 46) rfl)
theorem wt_287 : w_287 ∈ gx_Ts := gx_Ts_c4 (List.mem_of_getElem? (i := 47) rfl)
theorem wt_288 : w_288 ∈ gx_Ts := gx_Ts_c4 (List.mem_of_getElem? (i := 48) rfl)
theorem wt_289 : w_289 ∈ gx_Ts := gx_Ts_c4 (List.mem_of_getElem? (i := 49) rfl)
theorem wt_290 : w_290 ∈ gx_Ts := gx_Ts_c4 (List.mem_of_getElem? (i := 50) rfl)
theorem wt_291 : w_291 ∈ gx_Ts := gx_Ts_c4 (List.mem_of_getElem? (i := 51) rfl)
theorem wt_292 : w_292 ∈ gx_Ts := gx_Ts_c4 (List.mem_of_getElem? (i := 52) rfl)
theorem wt_293 : w_293 ∈ gx_Ts := gx_Ts_c4 (List.mem_of_getElem? (i := 53) rfl)
theorem wt_294 : w_294 ∈ gx_Ts := gx_Ts_c4 (List.mem_of_getElem? (i := 54) rfl)
theorem wt_295 : w_295 ∈ gx_Ts := gx_Ts_c4 (List.mem_of_getElem? (i := 55) rfl)
theorem wt_296 : w_296 ∈ gx_Ts := gx_Ts_c4 (List.mem_of_getElem? (i := 56) rfl)
theorem wt_297 : w_297 ∈ gx_Ts := gx_Ts_c4 (List.mem_of_getElem? (i := 57) rfl)
theorem wt_298 : w_298 ∈ gx_Ts := gx_Ts_c4 (List.mem_of_getElem? (i := 58) rfl)
theorem wt_299 : w_299 ∈ gx_Ts := gx_Ts_c4 (List.mem_of_getElem? (i := 59) rfl)
theorem wt_300 : w_300 ∈ gx_Ts := gx_Ts_c5 (List.mem_of_getElem? (i := 0) rfl)
theorem wt_301 : w_301 ∈ gx_Ts := gx_Ts_c5 (List.mem_of_getElem? (i := 1) rfl)
theorem wt_302 : w_302 ∈ gx_Ts := gx_Ts_c5 (List.mem_of_getElem? (i := 2) rfl)
theorem wt_303 : w_303 ∈ gx_Ts := gx_Ts_c5 (List.mem_of_getElem? (i := 3) rfl)
theorem wt_304 : w_304 ∈ gx_Ts := gx_Ts_c5 (List.mem_of_getElem? (i := 4) rfl)
theorem wt_305 : w_305 ∈ gx_Ts := gx_Ts_c5 (List.mem_of_getElem? (i := 5) rfl)
theorem wt_306 : w_306 ∈ gx_Ts := gx_Ts_c5 (List.mem_of_getElem? (i := 6) rfl)
theorem wt_307 : w_307 ∈ gx_Ts := gx_Ts_c5 (List.mem_of_getElem? (i := 7) rfl)
theorem wt_308 : w_308 ∈ gx_Ts := gx_Ts_c5 (List.mem_of_getElem? (i := 8) rfl)
theorem wt_309 : w_309 ∈ gx_Ts := gx_Ts_c5 (List.mem_of_getElem? (i := 9) rfl)
theorem wt_310 : w_310 ∈ gx_Ts := gx_Ts_c5 (List.mem_of_getElem? (i := 10) rfl)
theorem wt_311 : w_311 ∈ gx_Ts := gx_Ts_c5 (List.mem_of_getElem? (i := 11) rfl)
theorem wt_312 : w_312 ∈ gx_Ts := gx_Ts_c5 (List.mem_of_getElem? (i := 12) rfl)
theorem wt_313 : w_313 ∈ gx_Ts := gx_Ts_c5 (List.mem_of_getElem? (i := 13) rfl)
theorem wt_314 : w_314 ∈ gx_Ts := gx_Ts_c5 (List.mem_of_getElem? (i := 14) rfl)
theorem wt_315 : w_315 ∈ gx_Ts := gx_Ts_c5 (List.mem_of_getElem? (i := 15) rfl)
theorem wt_316 : w_316 ∈ gx_Ts := gx_Ts_c5 (List.mem_of_getElem? (i := 16) rfl)
theorem wt_317 : w_317 ∈ gx_Ts := gx_Ts_c5 (List.mem_of_getElem? (i := 17) rfl)
theorem wt_318 : w_318 ∈ gx_Ts := gx_Ts_c5 (List.mem_of_getElem? (i := 18) rfl)
theorem wt_319 : w_319 ∈ gx_Ts := gx_Ts_c5 (List.mem_of_getElem? (i := 19) rfl)
theorem wt_320 : w_320 ∈ gx_Ts := gx_Ts_c5 (List.mem_of_getElem? (i := 20) rfl)
theorem wt_321 : w_321 ∈ gx_Ts := gx_Ts_c5 (List.mem_of_getElem? (i := 21) rfl)
theorem wt_322 : w_322 ∈ gx_Ts := gx_Ts_c5 (List.mem_of_getElem? (i := 22) rfl)
theorem wt_323 : w_323 ∈ gx_Ts := gx_Ts_c5 (List.mem_of_getElem? (i := 23) rfl)
theorem wt_324 : w_324 ∈ gx_Ts := gx_Ts_c5 (List.mem_of_getElem? (i := 24) rfl)
theorem wt_325 : w_325 ∈ gx_Ts := gx_Ts_c5 (List.mem_of_getElem? (i := 25) rfl)
theorem wt_326 : w_326 ∈ gx_Ts := gx_Ts_c5 (List.mem_of_getElem? (i := 26) rfl)
theorem wt_327 : w_327 ∈ gx_Ts := gx_Ts_c5 (List.mem_of_getElem? (i := 27) rfl)
theorem wt_328 : w_328 ∈ gx_Ts := gx_Ts_c5 (List.mem_of_getElem? (i := 28) rfl)
theorem wt_329 : w_329 ∈ gx_Ts := gx_Ts_c5 (List.mem_of_getElem? (i := 29) rfl)
theorem wt_330 : w_330 ∈ gx_Ts := gx_Ts_c5 (List.mem_of_getElem? (i := 30) rfl)
theorem wt_331 : w_331 ∈ gx_Ts := gx_Ts_c5 (List.mem_of_getElem? (i := 31) rfl)
theorem wt_332 : w_332 ∈ gx_Ts := gx_Ts_c5 (List.mem_of_getElem? (i := 32) rfl)
theorem wt_333 : w_333 ∈ gx_Ts := gx_Ts_c5 (List.mem_of_getElem? (i := 33) rfl)
theorem wt_334 : w_334 ∈ gx_Ts := gx_Ts_c5 (List.mem_of_getElem? (i := 34) rfl)
theorem wt_335 : w_335 ∈ gx_Ts := gx_Ts_c5 (List.mem_of_getElem? (i := 35) rfl)
theorem wt_336 : w_336 ∈ gx_Ts := gx_Ts_c5 (List.mem_of_getElem? (i := 36) rfl)
theorem wt_337 : w_337 ∈ gx_Ts := gx_Ts_c5 (List.mem_of_getElem? (i := 37) rfl)
theorem wt_338 : w_338 ∈ gx_Ts := gx_Ts_c5 (List.mem_of_getElem? (i := 38) rfl)
theorem wt_339 : w_339 ∈ gx_Ts := gx_Ts_c5 (List.mem_of_getElem? (i := 39) rfl)
theorem wt_340 : w_340 ∈ gx_Ts := gx_Ts_c5 (List.mem_of_getElem? (i := 40) rfl)
theorem wt_341 : w_341 ∈ gx_Ts := gx_Ts_c5 (List.mem_of_getElem? (i := 41) rfl)
theorem wt_342 : w_342 ∈ gx_Ts := gx_Ts_c5 (List.mem_of_getElem? (i := 42) rfl)
theorem wt_343 : w_343 ∈ gx_Ts := gx_Ts_c5 (List.mem_of_getElem? (i := 43) rfl)
theorem wt_344 : w_344 ∈ gx_Ts := gx_Ts_c5 (List.mem_of_getElem? (i := 44) rfl)
theorem wt_345 : w_345 ∈ gx_Ts := gx_Ts_c5 (List.mem_of_getElem? (i := 45) rfl)
theorem wt_346 : w_346 ∈ gx_Ts := gx_Ts_c5 (List.mem_of_getElem? (i := 46) rfl)
theorem wt_347 : w_347 ∈ gx_Ts := gx_Ts_c5 (List.mem_of_getElem? (i := 47) rfl)
theorem wt_348 : w_348 ∈ gx_Ts := gx_Ts_c5 (List.mem_of_getElem? (i := 48) rfl)
theorem wt_349 : w_349 ∈ gx_Ts := gx_Ts_c5 (List.mem_of_getElem? (i := 49) rfl)
theorem wt_350 : w_350 ∈ gx_Ts := gx_Ts_c5 (List.mem_of_getElem? (i := 50) rfl)
theorem wt_351 : w_351 ∈ gx_Ts := gx_Ts_c5 (List.mem_of_getElem? (i := 51) rfl)
theorem wt_352 : w_352 ∈ gx_Ts := gx_Ts_c5 (List.mem_of_getElem? (i := 52) rfl)
theorem wt_353 : w_353 ∈ gx_Ts := gx_Ts_c5 (List.mem_of_getElem? (i := 53) rfl)
theorem wt_354 : w_354 ∈ gx_Ts := gx_Ts_c5 (List.mem_of_getElem? (i := 54) rfl)
theorem wt_355 : w_355 ∈ gx_Ts := gx_Ts_c5 (List.mem_of_getElem? (i := 55) rfl)
theorem wt_356 : w_356 ∈ gx_Ts := gx_Ts_c5 (List.mem_of_getElem? (i := 56) rfl)
theorem wt_357 : w_357 ∈ gx_Ts := gx_Ts_c5 (List.mem_of_getElem? (i := 57) rfl)
theorem wt_358 : w_358 ∈ gx_Ts := gx_Ts_c5 (List.mem_of_getElem? (i := 58) rfl)
theorem wt_359 : w_359 ∈ gx_Ts := gx_Ts_c5 (List.mem_of_getElem? (i := 59) rfl)
theorem wt_360 : w_360 ∈ gx_Ts := gx_Ts_c6 (List.mem_of_getElem? (i := 0) rfl)
theorem wt_361 : w_361 ∈ gx_Ts := gx_Ts_c6 (List.mem_of_getElem? (i := 1) rfl)
theorem wt_362 : w_362 ∈ gx_Ts := gx_Ts_c6 (List.mem_of_getElem? (i := 2) rfl)
theorem wt_363 : w_363 ∈ gx_Ts := gx_Ts_c6 (List.mem_of_getElem? (i := 3) rfl)
theorem wt_364 : w_364 ∈ gx_Ts := gx_Ts_c6 (List.mem_of_getElem? (i := 4) rfl)
theorem wt_365 : w_365 ∈ gx_Ts := gx_Ts_c6 (List.mem_of_getElem? (i := 5) rfl)
theorem wt_366 : w_366 ∈ gx_Ts := gx_Ts_c6 (List.mem_of_getElem? (i := 6) rfl)
theorem wt_367 : w_367 ∈ gx_Ts := gx_Ts_c6 (List.mem_of_getElem? (i := 7) rfl)
theorem wt_368 : w_368 ∈ gx_Ts := gx_Ts_c6 (List.mem_of_getElem? (i := 8) rfl)
theorem wt_369 : w_369 ∈ gx_Ts := gx_Ts_c6 (List.mem_of_getElem? (i := 9) rfl)
theorem wt_370 : w_370 ∈ gx_Ts := gx_Ts_c6 (List.mem_of_getElem? (i := 10) rfl)
theorem wt_371 : w_371 ∈ gx_Ts := gx_Ts_c6 (List.mem_of_getElem? (i := 11) rfl)
theorem wt_372 : w_372 ∈ gx_Ts := gx_Ts_c6 (List.mem_of_getElem? (i := 12) rfl)
theorem wt_373 : w_373 ∈ gx_Ts := gx_Ts_c6 (List.mem_of_getElem? (i := 13) rfl)
theorem wt_374 : w_374 ∈ gx_Ts := gx_Ts_c6 (List.mem_of_getElem? (i := 14) rfl)
theorem wt_375 : w_375 ∈ gx_Ts := gx_Ts_c6 (List.mem_of_getElem? (i := 15) rfl)
theorem wt_376 : w_376 ∈ gx_Ts := gx_Ts_c6 (List.mem_of_getElem? (i := 16) rfl)
theorem wt_377 : w_377 ∈ gx_Ts := gx_Ts_c6 (List.mem_of_getElem? (i := 17) rfl)
theorem wt_378 : w_378 ∈ gx_Ts := gx_Ts_c6 (List.mem_of_getElem? (i := 18) rfl)
theorem wt_379 : w_379 ∈ gx_Ts := gx_Ts_c6 (List.mem_of_getElem? (i := 19) rfl)
theorem wt_380 : w_380 ∈ gx_Ts := gx_Ts_c6 (List.mem_of_getElem? (i := 20) rfl)
theorem wt_381 : w_381 ∈ gx_Ts := gx_Ts_c6 (List.mem_of_getElem? (i := 21) rfl)
theorem wt_382 : w_382 ∈ gx_Ts := gx_Ts_c6 (List.mem_of_getElem? (i := 22) rfl)
theorem wt_383 : w_383 ∈ gx_Ts := gx_Ts_c6 (List.mem_of_getElem? (i := 23) rfl)
theorem wt_384 : w_384 ∈ gx_Ts := gx_Ts_c6 (List.mem_of_getElem? (i := 24) rfl)
theorem wt_385 : w_385 ∈ gx_Ts := gx_Ts_c6 (List.mem_of_getElem? (i := 25) rfl)
theorem wt_386 : w_386 ∈ gx_Ts := gx_Ts_c6 (List.mem_of_getElem? (i := 26) rfl)
theorem wt_387 : w_387 ∈ gx_Ts := gx_Ts_c6 (List.mem_of_getElem? (i := 27) rfl)
theorem wt_388 : w_388 ∈ gx_Ts := gx_Ts_c6 (List.mem_of_getElem? (i := 28) rfl)
theorem wt_389 : w_389 ∈ gx_Ts := gx_Ts_c6 (List.mem_of_getElem? (i := 29) rfl)
theorem wt_390 : w_390 ∈ gx_Ts := gx_Ts_c6 (List.mem_of_getElem? (i := 30) rfl)
theorem wt_391 : w_391 ∈ gx_Ts := gx_Ts_c6 (List.mem_of_getElem? (i := 31) rfl)
theorem wt_392 : w_392 ∈ gx_Ts := gx_Ts_c6 (List.mem_of_getElem? (i := 32) rfl)
theorem wt_393 : w_393 ∈ gx_Ts := gx_Ts_c6 (List.mem_of_getElem? (i := 33) rfl)
theorem wt_394 : w_394 ∈ gx_Ts := gx_Ts_c6 (List.mem_of_getElem? (i := 34) rfl)
theorem wt_395 : w_395 ∈ gx_Ts := gx_Ts_c6 (List.mem_of_getElem? (i := 35) rfl)
theorem wt_396 : w_396 ∈ gx_Ts := gx_Ts_c6 (List.mem_of_getElem? (i := 36) rfl)
theorem wt_397 : w_397 ∈ gx_Ts := gx_Ts_c6 (List.mem_of_getElem? (i := 37) rfl)
theorem wt_398 : w_398 ∈ gx_Ts := gx_Ts_c6 (List.mem_of_getElem? (i := 38) rfl)
theorem wt_399 : w_399 ∈ gx_Ts := gx_Ts_c6 (List.mem_of_getElem? (i := 39) rfl)
theorem wt_400 : w_400 ∈ gx_Ts := gx_Ts_c6 (List.mem_of_getElem? (i := 40) rfl)
theorem wt_401 : w_401 ∈ gx_Ts := gx_Ts_c6 (List.mem_of_getElem? (i := 41) rfl)
theorem wt_402 : w_402 ∈ gx_Ts := gx_Ts_c6 (List.mem_of_getElem? (i := 42) rfl)
theorem wt_403 : w_403 ∈ gx_Ts := gx_Ts_c6 (List.mem_of_getElem? (i := 43) rfl)
theorem wt_404 : w_404 ∈ gx_Ts := gx_Ts_c6 (List.mem_of_getElem? (i := 44) rfl)
theorem wt_405 : w_405 ∈ gx_Ts := gx_Ts_c6 (List.mem_of_getElem? (i := 45) rfl)
theorem wt_406 : w_406 ∈ gx_Ts := gx_Ts_c6 (List.mem_of_getElem? (i := 46) rfl)
theorem wt_407 : w_407 ∈ gx_Ts := gx_Ts_c6 (List.mem_of_getElem? (i := 47) rfl)
theorem wt_408 : w_408 ∈ gx_Ts := gx_Ts_c6 (List.mem_of_getElem? (i := 48) rfl)
theorem wt_409 : w_409 ∈ gx_Ts := gx_Ts_c6 (List.mem_of_getElem? (i := 49) rfl)
theorem wt_410 : w_410 ∈ gx_Ts := gx_Ts_c6 (List.mem_of_getElem? (i := 50) rfl)
theorem wt_411 : w_411 ∈ gx_Ts := gx_Ts_c6 (List.mem_of_getElem? (i := 51) rfl)
theorem wt_412 : w_412 ∈ gx_Ts := gx_Ts_c6 (List.mem_of_getElem? (i := 52) rfl)
theorem wt_413 : w_413 ∈ gx_Ts := gx_Ts_c6 (List.mem_of_getElem? (i := 53) rfl)
theorem wt_414 : w_414 ∈ gx_Ts := gx_Ts_c6 (List.mem_of_getElem? (i := 54) rfl)
theorem wt_415 : w_415 ∈ gx_Ts := gx_Ts_c6 (List.mem_of_getElem? (i := 55) rfl)
theorem wt_416 : w_416 ∈ gx_Ts := gx_Ts_c6 (List.mem_of_getElem? (i := 56) rfl)
theorem wt_417 : w_417 ∈ gx_Ts := gx_Ts_c6 (List.mem_of_getElem? (i := 57) rfl)
theorem wt_418 : w_418 ∈ gx_Ts := gx_Ts_c6 (List.mem_of_getElem? (i := 58) rfl)
theorem wt_419 : w_419 ∈ gx_Ts := gx_Ts_c6 (List.mem_of_getElem? (i := 59) rfl)
theorem wt_420 : w_420 ∈ gx_Ts := gx_Ts_c7 (List.mem_of_getElem? (i := 0) rfl)
theorem wt_421 : w_421 ∈ gx_Ts := gx_Ts_c7 (List.mem_of_getElem? (i := 1) rfl)
theorem wt_422 : w_422 ∈ gx_Ts := gx_Ts_c7 (List.mem_of_getElem? (i := 2) rfl)
theorem wt_423 : w_423 ∈ gx_Ts := gx_Ts_c7 (List.mem_of_getElem? (i := 3) rfl)
theorem wt_424 : w_424 ∈ gx_Ts := gx_Ts_c7 (List.mem_of_getElem? (i := 4) rfl)
theorem wt_425 : w_425 ∈ gx_Ts := gx_Ts_c7 (List.mem_of_getElem? (i := 5) rfl)
theorem wt_426 : w_426 ∈ gx_Ts := gx_Ts_c7 (List.mem_of_getElem? (i := 6) rfl)
theorem wt_427 : w_427 ∈ gx_Ts := gx_Ts_c7 (List.mem_of_getElem? (i := 7) rfl)
theorem wt_428 : w_428 ∈ gx_Ts := gx_Ts_c7 (List.mem_of_getElem? (i := 8) rfl)
theorem wt_429 : w_429 ∈ gx_Ts := gx_Ts_c7 (List.mem_of_getElem? (i := 9) rfl)
theorem wt_430 : w_430 ∈ gx_Ts := gx_Ts_c7 (List.mem_of_getElem? (i := 10) rfl)
theorem wt_431 : w_431 ∈ gx_Ts := gx_Ts_c7 (List.mem_of_getElem? (i := 11) rfl)
theorem wt_432 : w_432 ∈ gx_Ts := gx_Ts_c7 (List.mem_of_getElem? (i := 12) rfl)
theorem wt_433 : w_433 ∈ gx_Ts := gx_Ts_c7 (List.mem_of_getElem? (i := 13) rfl)
theorem wt_434 : w_434 ∈ gx_Ts := gx_Ts_c7 (List.mem_of_getElem? (i := 14) rfl)
theorem wt_435 : w_435 ∈ gx_Ts := gx_Ts_c7 (List.mem_of_getElem? (i := 15) rfl)
theorem wt_436 : w_436 ∈ gx_Ts := gx_Ts_c7 (List.mem_of_getElem? (i := 16) rfl)
theorem wt_437 : w_437 ∈ gx_Ts := gx_Ts_c7 (List.mem_of_getElem? (i := 17) rfl)
theorem wt_438 : w_438 ∈ gx_Ts := gx_Ts_c7 (List.mem_of_getElem? (i := 18) rfl)
theorem wt_439 : w_439 ∈ gx_Ts := gx_Ts_c7 (List.mem_of_getElem? (i := 19) rfl)
theorem wt_440 : w_440 ∈ gx_Ts := gx_Ts_c7 (List.mem_of_getElem? (i := 20) rfl)
theorem wt_441 : w_441 ∈ gx_Ts := gx_Ts_c7 (List.mem_of_getElem? (i := 21) rfl)
theorem wt_442 : w_442 ∈ gx_Ts := gx_Ts_c7 (List.mem_of_getElem? (i := 22) rfl)
theorem wt_443 : w_443 ∈ gx_Ts := gx_Ts_c7 (List.mem_of_getElem? (i := 23) rfl)
theorem wt_444 : w_444 ∈ gx_Ts := gx_Ts_c7 (List.mem_of_getElem? (i := 24) rfl)
theorem wt_445 : w_445 ∈ gx_Ts := gx_Ts_c7 (List.mem_of_getElem? (i := 25) rfl)
theorem wt_446 : w_446 ∈ gx_Ts := gx_Ts_c7 (List.mem_of_getElem? (i := 26) rfl)
theorem wt_447 : w_447 ∈ gx_Ts := gx_Ts_c7 (List.mem_of_getElem? (i := 27) rfl)
theorem wt_448 : w_448 ∈ gx_Ts := gx_Ts_c7 (List.mem_of_getElem? (i := 28) rfl)
theorem wt_449 : w_449 ∈ gx_Ts := gx_Ts_c7 (List.mem_of_getElem? (i := 29) rfl)
theorem wt_450 : w_450 ∈ gx_Ts := gx_Ts_c7 (List.mem_of_getElem? (i := 30) rfl)
theorem wt_451 : w_451 ∈ gx_Ts := gx_Ts_c7 (List.mem_of_getElem? (i := 31) rfl)
theorem wt_452 : w_452 ∈ gx_Ts := gx_Ts_c7 (List.mem_of_getElem? (i := 32) rfl)
theorem wt_453 : w_453 ∈ gx_Ts := gx_Ts_c7 (List.mem_of_getElem? (i := 33) rfl)
theorem wt_454 : w_454 ∈ gx_Ts := gx_Ts_c7 (List.mem_of_getElem? (i := 34) rfl)
theorem wt_455 : w_455 ∈ gx_Ts := gx_Ts_c7 (List.mem_of_getElem? (i := 35) rfl)
theorem wt_456 : w_456 ∈ gx_Ts := gx_Ts_c7 (List.mem_of_getElem? (i := 36) rfl)
theorem wt_457 : w_457 ∈ gx_Ts := gx_Ts_c7 (List.mem_of_getElem? (i := 37) rfl)
theorem wt_458 : w_458 ∈ gx_Ts := gx_Ts_c7 (List.mem_of_getElem? (i := 38) rfl)
theorem wt_459 : w_459 ∈ gx_Ts := gx_Ts_c7 (List.mem_of_getElem? (i := 39) rfl)
theorem wt_460 : w_460 ∈ gx_Ts := gx_Ts_c7 (List.mem_of_getElem? (i := 40) rfl)
theorem wt_461 : w_461 ∈ gx_Ts := gx_Ts_c7 (List.mem_of_getElem? (i := 41) rfl)
theorem wt_462 : w_462 ∈ gx_Ts := gx_Ts_c7 (List.mem_of_getElem? (i := 42) rfl)
theorem wt_463 : w_463 ∈ gx_Ts := gx_Ts_c7 (List.mem_of_getElem? (i := 43) rfl)
theorem wt_464 : w_464 ∈ gx_Ts := gx_Ts_c7 (List.mem_of_getElem? (i := 44) rfl)
theorem wt_465 : w_465 ∈ gx_Ts := gx_Ts_c7 (List.mem_of_getElem? (i := 45) rfl)
theorem wt_466 : w_466 ∈ gx_Ts := gx_Ts_c7 (List.mem_of_getElem? (i := 46) rfl)
theorem wt_467 : w_467 ∈ gx_Ts := gx_Ts_c7 (List.mem_of_getElem? (i := 47) rfl)
theorem wt_468 : w_468 ∈ gx_Ts := gx_Ts_c7 (List.mem_of_getElem? (i := 48) rfl)
theorem wt_469 : w_469 ∈ gx_Ts := gx_Ts_c7 (List.mem_of_getElem? (i := 49) rfl)
theorem wt_470 : w_470 ∈ gx_Ts := gx_Ts_c7 (List.mem_of_getElem? (i := 50) rfl)
theorem wt_471 : w_471 ∈ gx_Ts := gx_Ts_c7 (List.mem_of_getElem? (i := 51) rfl)
theorem wt_472 : w_472 ∈ gx_Ts := gx_Ts_c7 (List.mem_of_getElem? (i := 52) rfl)
theorem wt_473 : w_473 ∈ gx_Ts := gx_Ts_c7 (List.mem_of_getElem? (i := 53) rfl)
theorem wt_474 : w_474 ∈ gx_Ts := gx_Ts_c7 (List.mem_of_getElem? (i := 54) rfl)
theorem wt_475 : w_475 ∈ gx_Ts := gx_Ts_c7 (List.mem_of_getElem? (i := 55) rfl)
theorem wt_476 : w_476 ∈ gx_Ts := gx_Ts_c7 (List.mem_of_getElem? (i := 56) rfl)
theorem wt_477 : w_477 ∈ gx_Ts := gx_Ts_c7 (List.mem_of_getElem? (i := 57) rfl)
theorem wt_478 : w_478 ∈ gx_Ts := gx_Ts_c7 (List.mem_of_getElem? (i := 58) rfl)
theorem wt_479 : w_479 ∈ gx_Ts := gx_Ts_c7 (List.mem_of_getElem? (i := 59) rfl)
theorem wt_480 : w_480 ∈ gx_Ts := gx_Ts_c8 (List.mem_of_getElem? (i := 0) rfl)
theorem wt_481 : w_481 ∈ gx_Ts := gx_Ts_c8 (List.mem_of_getElem? (i := 1) rfl)
theorem wt_482 : w_482 ∈ gx_Ts := gx_Ts_c8 (List.mem_of_getElem? (i := 2) rfl)
theorem wt_483 : w_483 ∈ gx_Ts := gx_Ts_c8 (List.mem_of_getElem? (i := 3) rfl)
theorem wt_484 : w_484 ∈ gx_Ts := gx_Ts_c8 (List.mem_of_getElem? (i := 4) rfl)
theorem wt_485 : w_485 ∈ gx_Ts := gx_Ts_c8 (List.mem_of_getElem? (i := 5) rfl)
theorem wt_486 : w_486 ∈ gx_Ts := gx_Ts_c8 (List.mem_of_getElem? (i := 6) rfl)
theorem wt_487 : w_487 ∈ gx_Ts := gx_Ts_c8 (List.mem_of_getElem? (i := 7) rfl)
theorem wt_488 : w_488 ∈ gx_Ts := gx_Ts_c8 (List.mem_of_getElem? (i := 8) rfl)
theorem wt_489 : w_489 ∈ gx_Ts := gx_Ts_c8 (List.mem_of_getElem? (i := 9) rfl)
theorem wt_490 : w_490 ∈ gx_Ts := gx_Ts_c8 (List.mem_of_getElem? (i := 10) rfl)
theorem wt_491 : w_491 ∈ gx_Ts := gx_Ts_c8 (List.mem_of_getElem? (i := 11) rfl)
theorem wt_492 : w_492 ∈ gx_Ts := gx_Ts_c8 (List.mem_of_getElem? (i := 12) rfl)
theorem wt_493 : w_493 ∈ gx_Ts := gx_Ts_c8 (List.mem_of_getElem? (i := 13) rfl)
theorem wt_494 : w_494 ∈ gx_Ts := gx_Ts_c8 (List.mem_of_getElem? (i := 14) rfl)
theorem wt_495 : w_495 ∈ gx_Ts := gx_Ts_c8 (List.mem_of_getElem? (i := 15) rfl)
theorem wt_496 : w_496 ∈ gx_Ts := gx_Ts_c8 (List.mem_of_getElem? (i := 16) rfl)
theorem wt_497 : w_497 ∈ gx_Ts := gx_Ts_c8 (List.mem_of_getElem? (i := 17) rfl)
theorem wt_498 : w_498 ∈ gx_Ts := gx_Ts_c8 (List.mem_of_getElem? (i := 18) rfl)
theorem wt_499 : w_499 ∈ gx_Ts := gx_Ts_c8 (List.mem_of_getElem? (i := 19) rfl)
theorem wt_500 : w_500 ∈ gx_Ts := gx_Ts_c8 (List.mem_of_getElem? (i := 20) rfl)
theorem wt_501 : w_501 ∈ gx_Ts := gx_Ts_c8 (List.mem_of_getElem? (i := 21) rfl)
theorem wt_502 : w_502 ∈ gx_Ts := gx_Ts_c8 (List.mem_of_getElem? (i := 22) rfl)
theorem wt_503 : w_503 ∈ gx_Ts := gx_Ts_c8 (List.mem_of_getElem? (i := 23) rfl)
theorem wt_504 : w_504 ∈ gx_Ts := gx_Ts_c8 (List.mem_of_getElem? (i := 24) rfl)
theorem wt_505 : w_505 ∈ gx_Ts := gx_Ts_c8 (List.mem_of_getElem? (i := 25) rfl)
theorem wt_506 : w_506 ∈ gx_Ts := gx_Ts_c8 (List.mem_of_getElem? (i := 26) rfl)
theorem wt_507 : w_507 ∈ gx_Ts := gx_Ts_c8 (List.mem_of_getElem? (i := 27) rfl)
theorem wt_508 : w_508 ∈ gx_Ts := gx_Ts_c8 (List.mem_of_getElem? (i := 28) rfl)
theorem wt_509 : w_509 ∈ gx_Ts := gx_Ts_c8 (List.mem_of_getElem? (i := 29) rfl)
theorem wt_510 : w_510 ∈ gx_Ts := gx_Ts_c8 (List.mem_of_getElem? (i := 30) rfl)
theorem wt_511 : w_511 ∈ gx_Ts := gx_Ts_c8 (List.mem_of_getElem? (i := 31) rfl)
theorem wt_512 : w_512 ∈ gx_Ts := gx_Ts_c8 (List.mem_of_getElem? (i := 32) rfl)
theorem wt_513 : w_513 ∈ gx_Ts := gx_Ts_c8 (List.mem_of_getElem? (i := 33) rfl)
theorem wt_514 : w_514 ∈ gx_Ts := gx_Ts_c8 (List.mem_of_getElem? (i := 34) rfl)
theorem wt_515 : w_515 ∈ gx_Ts := gx_Ts_c8 (List.mem_of_getElem? (i := 35) rfl)
theorem wt_516 : w_516 ∈ gx_Ts := gx_Ts_c8 (List.mem_of_getElem? (i := 36) rfl)
theorem wt_517 : w_517 ∈ gx_Ts := gx_Ts_c8 (List.mem_of_getElem? (i := 37) rfl)
theorem wt_518 : w_518 ∈ gx_Ts := gx_Ts_c8 (List.mem_of_getElem? (i := 38) rfl)
theorem wt_519 : w_519 ∈ gx_Ts := gx_Ts_c8 (List.mem_of_getElem? (i := 39) rfl)
theorem wt_520 : w_520 ∈ gx_Ts := gx_Ts_c8 (List.mem_of_getElem? (i := 40) rfl)
theorem wt_521 : w_521 ∈ gx_Ts := gx_Ts_c8 (List.mem_of_getElem? (i := 41) rfl)
theorem wt_522 : w_522 ∈ gx_Ts := gx_Ts_c8 (List.mem_of_getElem? (i := 42) rfl)
theorem wt_523 : w_523 ∈ gx_Ts := gx_Ts_c8 (List.mem_of_getElem? (i := 43) rfl)
theorem wt_524 : w_524 ∈ gx_Ts := gx_Ts_c8 (List.mem_of_getElem? (i := 44) rfl)
theorem wt_525 : w_525 ∈ gx_Ts := gx_Ts_c8 (List.mem_of_getElem? (i := 45) rfl)
theorem wt_526 : w_526 ∈ gx_Ts := gx_Ts_c8 (List.mem_of_getElem? (i := 46) rfl)
theorem wt_527 : w_527 ∈ gx_Ts := gx_Ts_c8 (List.mem_of_getElem? (i := 47) rfl)
theorem wt_528 : w_528 ∈ gx_Ts := gx_Ts_c8 (List.mem_of_getElem? (i := 48) rfl)
theorem wt_529 : w_529 ∈ gx_Ts := gx_Ts_c8 (List.mem_of_getElem? (i := 49) rfl)
theorem wt_530 : w_530 ∈ gx_Ts := gx_Ts_c8 (List.mem_of_getElem? (i := 50) rfl)
theorem wt_531 : w_531 ∈ gx_Ts := gx_Ts_c8 (List.mem_of_getElem? (i := 51) rfl)
theorem wt_532 : w_532 ∈ gx_Ts := gx_Ts_c8 (List.mem_of_getElem? (i := 52) rfl)
theorem wt_533 : w_533 ∈ gx_Ts := gx_Ts_c8 (List.mem_of_getElem? (i := 53) rfl)
theorem wt_534 : w_534 ∈ gx_Ts := gx_Ts_c8 (List.mem_of_getElem? (i := 54) rfl)
theorem wt_535 : w_535 ∈ gx_Ts := gx_Ts_c8 (List.mem_of_getElem? (i := 55) rfl)
theorem wt_536 : w_536 ∈ gx_Ts := gx_Ts_c8 (List.mem_of_getElem? (i := 56) rfl)
theorem wt_537 : w_537 ∈ gx_Ts := gx_Ts_c8 (List.mem_of_getElem? (i := 57) rfl)
theorem wt_538 : w_538 ∈ gx_Ts := gx_Ts_c8 (List.mem_of_getElem? (i := 58) rfl)
theorem wt_539 : w_539 ∈ gx_Ts := gx_Ts_c8 (List.mem_of_getElem? (i := 59) rfl)
theorem wt_540 : w_540 ∈ gx_Ts := gx_Ts_c9 (List.mem_of_getElem? (i := 0) rfl)
theorem wt_541 : w_541 ∈ gx_Ts := gx_Ts_c9 (List.mem_of_getElem? (i := 1) rfl)
theorem wt_542 : w_542 ∈ gx_Ts := gx_Ts_c9 (List.mem_of_getElem? (i := 2) rfl)
theorem wt_543 : w_543 ∈ gx_Ts := gx_Ts_c9 (List.mem_of_getElem? (i := 3) rfl)
theorem wt_544 : w_544 ∈ gx_Ts := gx_Ts_c9 (List.mem_of_getElem? (i := 4) rfl)
theorem wt_545 : w_545 ∈ gx_Ts := gx_Ts_c9 (List.mem_of_getElem? (i := 5) rfl)
theorem wt_546 : w_546 ∈ gx_Ts := gx_Ts_c9 (List.mem_of_getElem? (i := 6) rfl)
theorem wt_547 : w_547 ∈ gx_Ts := gx_Ts_c9 (List.mem_of_getElem? (i := 7) rfl)
theorem wt_548 : w_548 ∈ gx_Ts := gx_Ts_c9 (List.mem_of_getElem? (i := 8) rfl)
theorem wt_549 : w_549 ∈ gx_Ts := gx_Ts_c9 (List.mem_of_getElem? (i := 9) rfl)
theorem wt_550 : w_550 ∈ gx_Ts := gx_Ts_c9 (List.mem_of_getElem? (i := 10) rfl)
theorem wt_551 : w_551 ∈ gx_Ts := gx_Ts_c9 (List.mem_of_getElem? (i := 11) rfl)
theorem wt_552 : w_552 ∈ gx_Ts := gx_Ts_c9 (List.mem_of_getElem? (i := 12) rfl)
theorem wt_553 : w_553 ∈ gx_Ts := gx_Ts_c9 (List.mem_of_getElem? (i := 13) rfl)
theorem wt_554 : w_554 ∈ gx_Ts := gx_Ts_c9 (List.mem_of_getElem? (i := 14) rfl)
theorem wt_555 : w_555 ∈ gx_Ts := gx_Ts_c9 (List.mem_of_getElem? (i := 15) rfl)
theorem wt_556 : w_556 ∈ gx_Ts := gx_Ts_c9 (List.mem_of_getElem? (i := 16) rfl)
theorem wt_557 : w_557 ∈ gx_Ts := gx_Ts_c9 (List.mem_of_getElem? (i := 17) rfl)
theorem wt_558 : w_558 ∈ gx_Ts := gx_Ts_c9 (List.mem_of_getElem? (i := 18) rfl)
theorem wt_559 : w_559 ∈ gx_Ts := gx_Ts_c9 (List.mem_of_getElem? (i := 19) rfl)
theorem wt_560 : w_560 ∈ gx_Ts := gx_Ts_c9 (List.mem_of_getElem? (i := 20) rfl)
theorem wt_561 : w_561 ∈ gx_Ts := gx_Ts_c9 (List.mem_of_getElem? (i := 21) rfl)
theorem wt_562 : w_562 ∈ gx_Ts := gx_Ts_c9 (List.mem_of_getElem? (i := 22) rfl)
theorem wt_563 : w_563 ∈ gx_Ts := gx_Ts_c9 (List.mem_of_getElem? (i := 23) rfl)
theorem wt_564 : w_564 ∈ gx_Ts := gx_Ts_c9 (List.mem_of_getElem? (i := 24) rfl)
theorem wt_565 : w_565 ∈ gx_Ts := gx_Ts_c9 (List.mem_of_getElem? (i := 25) rfl)
theorem wt_566 : w_566 ∈ gx_Ts := gx_Ts_c9 (List.mem_of_getElem? (i := 26) rfl)
theorem wt_567 : w_567 ∈ gx_Ts := gx_Ts_c9 (List.mem_of_getElem? (i := 27) rfl)
theorem wt_568 : w_568 ∈ gx_Ts := gx_Ts_c9 (List.mem_of_getElem? (i := 28) rfl)
theorem wt_569 : w_569 ∈ gx_Ts := gx_Ts_c9 (List.mem_of_getElem? (i := 29) rfl)
theorem wt_570 : w_570 ∈ gx_Ts := gx_Ts_c9 (List.mem_of_getElem? (i := 30) rfl)
theorem wt_571 : w_571 ∈ gx_Ts := gx_Ts_c9 (List.mem_of_getElem? (i := 31) rfl)
theorem wt_572 : w_572 ∈ gx_Ts := gx_Ts_c9 (List.mem_of_getElem? (i := 32) rfl)
theorem wt_573 : w_573 ∈ gx_Ts := gx_Ts_c9 (List.mem_of_getElem? (i := 33) rfl)
theorem wt_574 : w_574 ∈ gx_Ts := gx_Ts_c9 (List.mem_of_getElem? (i := 34) rfl)
theorem wt_575 : w_575 ∈ gx_Ts := gx_Ts_c9 (List.mem_of_getElem? (i := 35) rfl)
theorem wt_576 : w_576 ∈ gx_Ts := gx_Ts_c9 (List.mem_of_getElem? (i := 36) rfl)
theorem wt_577 : w_577 ∈ gx_Ts := gx_Ts_c9 (List.mem_of_getElem? (i := 37) rfl)
theorem wt_578 : w_578 ∈ gx_Ts := gx_Ts_c9 (List.mem_of_getElem? (i := 38) rfl)
theorem wt_579 : w_579 ∈ gx_Ts := gx_Ts_c9 (List.mem_of_getElem? (i := 39) rfl)
theorem wt_580 : w_580 ∈ gx_Ts := gx_Ts_c9 (List.mem_of_getElem? (i := 40) rfl)
theorem wt_581 : w_581 ∈ gx_Ts := gx_Ts_c9 (List.mem_of_getElem? (i := 41) rfl)
theorem wt_582 : w_582 ∈ gx_Ts := gx_Ts_c9 (List.mem_of_getElem? (i := 42) rfl)
theorem wt_583 : w_583 ∈ gx_Ts := gx_Ts_c9 (List.mem_of_getElem? (i := 43) rfl)
theorem wt_584 : w_584 ∈ gx_Ts := gx_Ts_c9 (List.mem_of_getElem? (i := 44) rfl)
theorem wt_585 : w_585 ∈ gx_Ts := gx_Ts_c9 (List.mem_of_getElem? (i := 45) rfl)
theorem wt_586 : w_586 ∈ gx_Ts := gx_Ts_c9 (List.mem_of_getElem? (i := 46) rfl)
theorem wt_587 : w_587 ∈ gx_Ts := gx_Ts_c9 (List.mem_of_getElem? (i := 47) rfl)
theorem wt_588 : w_588 ∈ gx_Ts := gx_Ts_c9 (List.mem_of_getElem? (i := 48) rfl)
theorem wt_589 : w_589 ∈ gx_Ts := gx_Ts_c9 (List.mem_of_getElem? (i := 49) rfl)
theorem wt_590 : w_590 ∈ gx_Ts := gx_Ts_c9 (List.mem_of_getElem? (i := 50) rfl)
theorem wt_591 : w_591 ∈ gx_Ts := gx_Ts_c9 (List.mem_of_getElem? (i := 51) rfl)
theorem wt_592 : w_592 ∈ gx_Ts := gx_Ts_c9 (List.mem_of_getElem? (i := 52) rfl)
theorem wt_593 : w_593 ∈ gx_Ts := gx_Ts_c9 (List.mem_of_getElem? (i := 53) rfl)
theorem wt_594 : w_594 ∈ gx_Ts := gx_Ts_c9 (List.mem_of_getElem? (i := 54) rfl)
theorem wt_595 : w_595 ∈ gx_Ts := gx_Ts_c9 (List.mem_of_getElem? (i := 55) rfl)
theorem wt_596 : w_596 ∈ gx_Ts := gx_Ts_c9 (List.mem_of_getElem? (i := 56) rfl)
theorem wt_597 : w_597 ∈ gx_Ts := gx_Ts_c9 (List.mem_of_getElem? (i := 57) rfl)
theorem wt_598 : w_598 ∈ gx_Ts := gx_Ts_c9 (List.mem_of_getElem? (i := 58) rfl)
theorem wt_599 : w_599 ∈ gx_Ts := gx_Ts_c9 (List.mem_of_getElem? (i := 59) rfl)
theorem wt_600 : w_600 ∈ gx_Ts := gx_Ts_c10 (List.mem_of_getElem? (i := 0) rfl)
theorem wt_601 : w_601 ∈ gx_Ts := gx_Ts_c10 (List.mem_of_getElem? (i := 1) rfl)
theorem wt_602 : w_602 ∈ gx_Ts := gx_Ts_c10 (List.mem_of_getElem? (i := 2) rfl)
theorem wt_603 : w_603 ∈ gx_Ts := gx_Ts_c10 (List.mem_of_getElem? (i := 3) rfl)
theorem wt_604 : w_604 ∈ gx_Ts := gx_Ts_c10 (List.mem_of_getElem? (i := 4) rfl)
theorem wt_605 : w_605 ∈ gx_Ts := gx_Ts_c10 (List.mem_of_getElem? (i := 5) rfl)
theorem wt_606 : w_606 ∈ gx_Ts := gx_Ts_c10 (List.mem_of_getElem? (i := 6) rfl)
theorem wt_607 : w_607 ∈ gx_Ts := gx_Ts_c10 (List.mem_of_getElem? (i := 7) rfl)
theorem wt_608 : w_608 ∈ gx_Ts := gx_Ts_c10 (List.mem_of_getElem? (i := 8) rfl)
theorem wt_609 : w_609 ∈ gx_Ts := gx_Ts_c10 (List.mem_of_getElem? (i := 9) rfl)
theorem wt_610 : w_610 ∈ gx_Ts := gx_Ts_c10 (List.mem_of_getElem? (i := 10) rfl)
theorem wt_611 : w_611 ∈ gx_Ts := gx_Ts_c10 (List.mem_of_getElem? (i := 11) rfl)
theorem wt_612 : w_612 ∈ gx_Ts := gx_Ts_c10 (List.mem_of_getElem? (i := 12) rfl)
theorem wt_613 : w_613 ∈ gx_Ts := gx_Ts_c10 (List.mem_of_getElem? (i := 13) rfl)
theorem wt_614 : w_614 ∈ gx_Ts := gx_Ts_c10 (List.mem_of_getElem? (i := 14) rfl)
theorem wt_615 : w_615 ∈ gx_Ts := gx_Ts_c10 (List.mem_of_getElem? (i := 15) rfl)
theorem wt_616 : w_616 ∈ gx_Ts := gx_Ts_c10 (List.mem_of_getElem? (i := 16) rfl)
theorem wt_617 : w_617 ∈ gx_Ts := gx_Ts_c10 (List.mem_of_getElem? (i := 17) rfl)
theorem wt_618 : w_618 ∈ gx_Ts := gx_Ts_c10 (List.mem_of_getElem? (i := 18) rfl)
theorem wt_619 : w_619 ∈ gx_Ts := gx_Ts_c10 (List.mem_of_getElem? (i := 19) rfl)
theorem wt_620 : w_620 ∈ gx_Ts := gx_Ts_c10 (List.mem_of_getElem? (i := 20) rfl)
theorem wt_621 : w_621 ∈ gx_Ts := gx_Ts_c10 (List.mem_of_getElem? (i := 21) rfl)
theorem wt_622 : w_622 ∈ gx_Ts := gx_Ts_c10 (List.mem_of_getElem? (i := 22) rfl)
theorem wt_623 : w_623 ∈ gx_Ts := gx_Ts_c10 (List.mem_of_getElem? (i := 23) rfl)
theorem wt_624 : w_624 ∈ gx_Ts := gx_Ts_c10 (List.mem_of_getElem? (i := 24) rfl)
theorem wt_625 : w_625 ∈ gx_Ts := gx_Ts_c10 (List.mem_of_getElem? (i := 25) rfl)
theorem wt_626 : w_626 ∈ gx_Ts := gx_Ts_c10 (List.mem_of_getElem? (i := 26) rfl)
theorem wt_627 : w_627 ∈ gx_Ts := gx_Ts_c10 (List.mem_of_getElem? (i := 27) rfl)
theorem wt_628 : w_628 ∈ gx_Ts := gx_Ts_c10 (List.mem_of_getElem? (i := 28) rfl)
theorem wt_629 : w_629 ∈ gx_Ts := gx_Ts_c10 (List.mem_of_getElem? (i := 29) rfl)
theorem wt_630 : w_630 ∈ gx_Ts := gx_Ts_c10 (List.mem_of_getElem? (i := 30) rfl)
theorem wt_631 : w_631 ∈ gx_Ts := gx_Ts_c10 (List.mem_of_getElem? (i := 31) rfl)
theorem wt_632 : w_632 ∈ gx_Ts := gx_Ts_c10 (List.mem_of_getElem? (i := 32) rfl)
theorem wt_633 : w_633 ∈ gx_Ts := gx_Ts_c10 (List.mem_of_getElem? (i := 33) rfl)
theorem wt_634 : w_634 ∈ gx_Ts := gx_Ts_c10 (List.mem_of_getElem? (i := 34) rfl)
theorem wt_635 : w_635 ∈ gx_Ts := gx_Ts_c10 (List.mem_of_getElem? (i := 35) rfl)
theorem wt_636 : w_636 ∈ gx_Ts := gx_Ts_c10 (List.mem_of_getElem? (i := 36) rfl)
theorem wt_637 : w_637 ∈ gx_Ts := gx_Ts_c10 (List.mem_of_getElem? (i := 37) rfl)
theorem wt_638 : w_638 ∈ gx_Ts := gx_Ts_c10 (List.mem_of_getElem? (i := 38) rfl)
theorem wt_639 : w_639 ∈ gx_Ts := gx_Ts_c10 (List.mem_of_getElem? (i := 39) rfl)
theorem wt_640 : w_640 ∈ gx_Ts := gx_Ts_c10 (List.mem_of_getElem? (i := 40) rfl)
theorem wt_641 : w_641 ∈ gx_Ts := gx_Ts_c10 (List.mem_of_getElem? (i := 41) rfl)
theorem wt_642 : w_642 ∈ gx_Ts := gx_Ts_c10 (List.mem_of_getElem? (i := 42) rfl)
theorem wt_643 : w_643 ∈ gx_Ts := gx_Ts_c10 (List.mem_of_getElem? (i := 43) rfl)
theorem wt_644 : w_644 ∈ gx_Ts := gx_Ts_c10 (List.mem_of_getElem? (i := 44) rfl)
theorem wt_645 : w_645 ∈ gx_Ts := gx_Ts_c10 (List.mem_of_getElem? (i := 45) rfl)
theorem wt_646 : w_646 ∈ gx_Ts := gx_Ts_c10 (List.mem_of_getElem? (i := 46) rfl)
theorem wt_647 : w_647 ∈ gx_Ts := gx_Ts_c10 (List.mem_of_getElem? (i := 47) rfl)
theorem wt_648 : w_648 ∈ gx_Ts := gx_Ts_c10 (List.mem_of_getElem? (i := 48) rfl)
theorem wt_649 : w_649 ∈ gx_Ts := gx_Ts_c10 (List.mem_of_getElem? (i := 49) rfl)
theorem wt_650 : w_650 ∈ gx_Ts := gx_Ts_c10 (List.mem_of_getElem? (i := 50) rfl)
theorem wt_651 : w_651 ∈ gx_Ts := gx_Ts_c10 (List.mem_of_getElem? (i := 51) rfl)
theorem wt_652 : w_652 ∈ gx_Ts := gx_Ts_c10 (List.mem_of_getElem? (i := 52) rfl)
theorem wt_653 : w_653 ∈ gx_Ts := gx_Ts_c10 (List.mem_of_getElem? (i := 53) rfl)
theorem wt_654 : w_654 ∈ gx_Ts := gx_Ts_c10 (List.mem_of_getElem? (i := 54) rfl)
theorem wt_655 : w_655 ∈ gx_Ts := gx_Ts_c10 (List.mem_of_getElem? (i := 55) rfl)
theorem wt_656 : w_656 ∈ gx_Ts := gx_Ts_c10 (List.mem_of_getElem? (i := 56) rfl)
theorem wt_657 : w_657 ∈ gx_Ts := gx_Ts_c10 (List.mem_of_getElem? (i := 57) rfl)
theorem wt_658 : w_658 ∈ gx_Ts := gx_Ts_c10 (List.mem_of_getElem? (i := 58) rfl)
theorem wt_659 : w_659 ∈ gx_Ts := gx_Ts_c10 (List.mem_of_getElem? (i := 59) rfl)
theorem wt_660 : w_660 ∈ gx_Ts := gx_Ts_c11 (List.mem_of_getElem? (i := 0) rfl)
theorem wt_661 : w_661 ∈ gx_Ts := gx_Ts_c11 (List.mem_of_getElem? (i := 1) rfl)
theorem wt_662 : w_662 ∈ gx_Ts := gx_Ts_c11 (List.mem_of_getElem? (i := 2) rfl)
theorem wt_663 : w_663 ∈ gx_Ts := gx_Ts_c11 (List.mem_of_getElem? (i := 3) rfl)
theorem wt_664 : w_664 ∈ gx_Ts := gx_Ts_c11 (List.mem_of_getElem? (i := 4) rfl)
theorem wt_665 : w_665 ∈ gx_Ts := gx_Ts_c11 (List.mem_of_getElem? (i := 5) rfl)
theorem wt_666 : w_666 ∈ gx_Ts := gx_Ts_c11 (List.mem_of_getElem? (i := 6) rfl)
theorem wt_667 : w_667 ∈ gx_Ts := gx_Ts_c11 (List.mem_of_getElem? (i := 7) rfl)
theorem wt_668 : w_668 ∈ gx_Ts := gx_Ts_c11 (List.mem_of_getElem? (i := 8) rfl)
theorem wt_669 : w_669 ∈ gx_Ts := gx_Ts_c11 (List.mem_of_getElem? (i := 9) rfl)
theorem wt_670 : w_670 ∈ gx_Ts := gx_Ts_c11 (List.mem_of_getElem? (i := 10) rfl)
theorem wt_671 : w_671 ∈ gx_Ts := gx_Ts_c11 (List.mem_of_getElem? (i := 11) rfl)
theorem wt_672 : w_672 ∈ gx_Ts := gx_Ts_c11 (List.mem_of_getElem? (i := 12) rfl)
theorem wt_673 : w_673 ∈ gx_Ts := gx_Ts_c11 (List.mem_of_getElem? (i := 13) rfl)
theorem wt_674 : w_674 ∈ gx_Ts := gx_Ts_c11 (List.mem_of_getElem? (i := 14) rfl)
theorem wt_675 : w_675 ∈ gx_Ts := gx_Ts_c11 (List.mem_of_getElem? (i := 15) rfl)
theorem wt_676 : w_676 ∈ gx_Ts := gx_Ts_c11 (List.mem_of_getElem? (i := 16) rfl)
theorem wt_677 : w_677 ∈ gx_Ts := gx_Ts_c11 (List.mem_of_getElem? (i := 17) rfl)
theorem wt_678 : w_678 ∈ gx_Ts := gx_Ts_c11 (List.mem_of_getElem? (i := 18) rfl)
theorem wt_679 : w_679 ∈ gx_Ts := gx_Ts_c11 (List.mem_of_getElem? (i := 19) rfl)
theorem wt_680 : w_680 ∈ gx_Ts := gx_Ts_c11 (List.mem_of_getElem? (i := 20) rfl)
theorem wt_681 : w_681 ∈ gx_Ts := gx_Ts_c11 (List.mem_of_getElem? (i := 21) rfl)
theorem wt_682 : w_682 ∈ gx_Ts := gx_Ts_c11 (List.mem_of_getElem? (i := 22) rfl)
theorem wt_683 : w_683 ∈ gx_Ts := gx_Ts_c11 (List.mem_of_getElem? (i := 23) rfl)
theorem wt_684 : w_684 ∈ gx_Ts := gx_Ts_c11 (List.mem_of_getElem? (i := 24) rfl)
theorem wt_685 : w_685 ∈ gx_Ts := gx_Ts_c11 (List.mem_of_getElem? (i := 25) rfl)
theorem wt_686 : w_686 ∈ gx_Ts := gx_Ts_c11 (List.mem_of_getElem? (i := 26) rfl)
theorem wt_687 : w_687 ∈ gx_Ts := gx_Ts_c11 (List.mem_of_getElem? (i := 27) rfl)
theorem wt_688 : w_688 ∈ gx_Ts := gx_Ts_c11 (List.mem_of_getElem? (i := 28) rfl)
theorem wt_689 : w_689 ∈ gx_Ts := gx_Ts_c11 (List.mem_of_getElem? (i := 29) rfl)
theorem wt_690 : w_690 ∈ gx_Ts := gx_Ts_c11 (List.mem_of_getElem? (i := 30) rfl)
theorem wt_691 : w_691 ∈ gx_Ts := gx_Ts_c11 (List.mem_of_getElem? (i := 31) rfl)
theorem wt_692 : w_692 ∈ gx_Ts := gx_Ts_c11 (List.mem_of_getElem? (i := 32) rfl)
theorem wt_693 : w_693 ∈ gx_Ts := gx_Ts_c11 (List.mem_of_getElem? (i := 33) rfl)
theorem wt_694 : w_694 ∈ gx_Ts := gx_Ts_c11 (List.mem_of_getElem? (i := 34) rfl)
theorem wt_695 : w_695 ∈ gx_Ts := gx_Ts_c11 (List.mem_of_getElem? (i := 35) rfl)
theorem wt_696 : w_696 ∈ gx_Ts := gx_Ts_c11 (List.mem_of_getElem? (i := 36) rfl)
theorem wt_697 : w_697 ∈ gx_Ts := gx_Ts_c11 (List.mem_of_getElem? (i := 37) rfl)
theorem wt_698 : w_698 ∈ gx_Ts := gx_Ts_c11 (List.mem_of_getElem? (i := 38) rfl)
theorem wt_699 : w_699 ∈ gx_Ts := gx_Ts_c11 (List.mem_of_getElem? (i := 39) rfl)
theorem wt_700 : w_700 ∈ gx_Ts := gx_Ts_c11 (List.mem_of_getElem? (i := 40) rfl)
theorem wt_701 : w_701 ∈ gx_Ts := gx_Ts_c11 (List.mem_of_getElem? (i := 41) rfl)
theorem wt_702 : w_702 ∈ gx_Ts := gx_Ts_c11 (List.mem_of_getElem? (i := 42) rfl)
theorem wt_703 : w_703 ∈ gx_Ts := gx_Ts_c11 (List.mem_of_getElem? (i := 43) rfl)
theorem wt_704 : w_704 ∈ gx_Ts := gx_Ts_c11 (List.mem_of_getElem? (i := 44) rfl)
theorem wt_705 : w_705 ∈ gx_Ts := gx_Ts_c11 (List.mem_of_getElem? (i := 45) rfl)
theorem wt_706 : w_706 ∈ gx_Ts := gx_Ts_c11 (List.mem_of_getElem? (i := 46) rfl)
theorem wt_707 : w_707 ∈ gx_Ts := gx_Ts_c11 (List.mem_of_getElem? (i := 47) rfl)
theorem wt_708 : w_708 ∈ gx_Ts := gx_Ts_c11 (List.mem_of_getElem? (i := 48) rfl)
theorem wt_709 : w_709 ∈ gx_Ts := gx_Ts_c11 (List.mem_of_getElem? (i := 49) rfl)
theorem wt_710 : w_710 ∈ gx_Ts := gx_Ts_c11 (List.mem_of_getElem? (i := 50) rfl)
theorem wt_711 : w_711 ∈ gx_Ts := gx_Ts_c11 (List.mem_of_getElem? (i := 51) rfl)
theorem wt_712 : w_712 ∈ gx_Ts := gx_Ts_c11 (List.mem_of_getElem? (i := 52) rfl)
theorem wt_713 : w_713 ∈ gx_Ts := gx_Ts_c11 (List.mem_of_getElem? (i := 53) rfl)
theorem wt_714 : w_714 ∈ gx_Ts := gx_Ts_c11 (List.mem_of_getElem? (i := 54) rfl)
theorem wt_715 : w_715 ∈ gx_Ts := gx_Ts_c11 (List.mem_of_getElem? (i := 55) rfl)
theorem wt_716 : w_716 ∈ gx_Ts := gx_Ts_c11 (List.mem_of_getElem? (i := 56) rfl)
theorem wt_717 : w_717 ∈ gx_Ts := gx_Ts_c11 (List.mem_of_getElem? (i := 57) rfl)
theorem wt_718 : w_718 ∈ gx_Ts := gx_Ts_c11 (List.mem_of_getElem? (i := 58) rfl)
theorem wt_719 : w_719 ∈ gx_Ts := gx_Ts_c11 (List.mem_of_getElem? (i := 59) rfl)
theorem wt_720 : w_720 ∈ gx_Ts := gx_Ts_c12 (List.mem_of_getElem? (i := 0) rfl)
theorem wt_721 : w_721 ∈ gx_Ts := gx_Ts_c12 (List.mem_of_getElem? (i := 1) rfl)
theorem wt_722 : w_722 ∈ gx_Ts := gx_Ts_c12 (List.mem_of_getElem? (i := 2) rfl)
theorem wt_723 : w_723 ∈ gx_Ts := gx_Ts_c12 (List.mem_of_getElem? (i := 3) rfl)
theorem wt_724 : w_724 ∈ gx_Ts := gx_Ts_c12 (List.mem_of_getElem? (i := 4) rfl)
theorem wt_725 : w_725 ∈ gx_Ts := gx_Ts_c12 (List.mem_of_getElem? (i := 5) rfl)
theorem wt_726 : w_726 ∈ gx_Ts := gx_Ts_c12 (List.mem_of_getElem? (i := 6) rfl)
theorem wt_727 : w_727 ∈ gx_Ts := gx_Ts_c12 (List.mem_of_getElem? (i := 7) rfl)
theorem wt_728 : w_728 ∈ gx_Ts := gx_Ts_c12 (List.mem_of_getElem? (i := 8) rfl)
theorem wt_729 : w_729 ∈ gx_Ts := gx_Ts_c12 (List.mem_of_getElem? (i := 9) rfl)
theorem wt_730 : w_730 ∈ gx_Ts := gx_Ts_c12 (List.mem_of_getElem? (i := 10) rfl)
theorem wt_731 : w_731 ∈ gx_Ts := gx_Ts_c12 (List.mem_of_getElem? (i := 11) rfl)
theorem wt_732 : w_732 ∈ gx_Ts := gx_Ts_c12 (List.mem_of_getElem? (i := 12) rfl)
theorem wt_733 : w_733 ∈ gx_Ts := gx_Ts_c12 (List.mem_of_getElem? (i := 13) rfl)
theorem wt_734 : w_734 ∈ gx_Ts := gx_Ts_c12 (List.mem_of_getElem? (i := 14) rfl)
theorem wt_735 : w_735 ∈ gx_Ts := gx_Ts_c12 (List.mem_of_getElem? (i := 15) rfl)
theorem wt_736 : w_736 ∈ gx_Ts := gx_Ts_c12 (List.mem_of_getElem? (i := 16) rfl)
theorem wt_737 : w_737 ∈ gx_Ts := gx_Ts_c12 (List.mem_of_getElem? (i := 17) rfl)
theorem wt_738 : w_738 ∈ gx_Ts := gx_Ts_c12 (List.mem_of_getElem? (i := 18) rfl)
theorem wt_739 : w_739 ∈ gx_Ts := gx_Ts_c12 (List.mem_of_getElem? (i := 19) rfl)
theorem wt_740 : w_740 ∈ gx_Ts := gx_Ts_c12 (List.mem_of_getElem? (i := 20) rfl)
theorem wt_741 : w_741 ∈ gx_Ts := gx_Ts_c12 (List.mem_of_getElem? (i := 21) rfl)
theorem wt_742 : w_742 ∈ gx_Ts := gx_Ts_c12 (List.mem_of_getElem? (i := 22) rfl)
theorem wt_743 : w_743 ∈ gx_Ts := gx_Ts_c12 (List.mem_of_getElem? (i := 23) rfl)
theorem wt_744 : w_744 ∈ gx_Ts := gx_Ts_c12 (List.mem_of_getElem? (i := 24) rfl)
theorem wt_745 : w_745 ∈ gx_Ts := gx_Ts_c12 (List.mem_of_getElem? (i := 25) rfl)
theorem wt_746 : w_746 ∈ gx_Ts := gx_Ts_c12 (List.mem_of_getElem? (i := 26) rfl)
theorem wt_747 : w_747 ∈ gx_Ts := gx_Ts_c12 (List.mem_of_getElem? (i := 27) rfl)
theorem wt_748 : w_748 ∈ gx_Ts := gx_Ts_c12 (List.mem_of_getElem? (i := 28) rfl)
theorem wt_749 : w_749 ∈ gx_Ts := gx_Ts_c12 (List.mem_of_getElem? (i := 29) rfl)
theorem wt_750 : w_750 ∈ gx_Ts := gx_Ts_c12 (List.mem_of_getElem? (i := 30) rfl)
theorem wt_751 : w_751 ∈ gx_Ts := gx_Ts_c12 (List.mem_of_getElem? (i := 31) rfl)
theorem wt_752 : w_752 ∈ gx_Ts := gx_Ts_c12 (List.mem_of_getElem? (i := 32) rfl)
theorem wt_753 : w_753 ∈ gx_Ts := gx_Ts_c12 (List.mem_of_getElem? (i := 33) rfl)
theorem wt_754 : w_754 ∈ gx_Ts := gx_Ts_c12 (List.mem_of_getElem? (i := 34) rfl)
theorem wt_755 : w_755 ∈ gx_Ts := gx_Ts_c12 (List.mem_of_getElem? (i := 35) rfl)
theorem wt_756 : w_756 ∈ gx_Ts := gx_Ts_c12 (List.mem_of_getElem? (i := 36) rfl)
theorem wt_757 : w_757 ∈ gx_Ts := gx_Ts_c12 (List.mem_of_getElem? (i := 37) rfl)
theorem wt_758 : w_758 ∈ gx_Ts := gx_Ts_c12 (List.mem_of_getElem? (i := 38) rfl)
theorem wt_759 : w_759 ∈ gx_Ts := gx_Ts_c12 (List.mem_of_getElem? (i := 39) rfl)
theorem wt_760 : w_760 ∈ gx_Ts := gx_Ts_c12 (List.mem_of_getElem? (i := 40) rfl)
theorem wt_761 : w_761 ∈ gx_Ts := gx_Ts_c12 (List.mem_of_getElem? (i := 41) rfl)
theorem wt_762 : w_762 ∈ gx_Ts := gx_Ts_c12 (List.mem_of_getElem? (i := 42) rfl)
theorem wt_763 : w_763 ∈ gx_Ts := gx_Ts_c12 (List.mem_of_getElem? (i := 43) rfl)
theorem wt_764 : w_764 ∈ gx_Ts := gx_Ts_c12 (List.mem_of_getElem? (i := 44) rfl)
theorem wt_765 : w_765 ∈ gx_Ts := gx_Ts_c12 (List.mem_of_getElem? (i := 45) rfl)
theorem wt_766 : w_766 ∈ gx_Ts := gx_Ts_c12 (List.mem_of_getElem? (i := 46) rfl)
theorem wt_767 : w_767 ∈ gx_Ts := gx_Ts_c12 (List.mem_of_getElem? (i := 47) rfl)
theorem wt_768 : w_768 ∈ gx_Ts := gx_Ts_c12 (List.mem_of_getElem? (i := 48) rfl)
theorem wt_769 : w_769 ∈ gx_Ts := gx_Ts_c12 (List.mem_of_getElem? (i := 49) rfl)
theorem wt_770 : w_770 ∈ gx_Ts := gx_Ts_c12 (List.mem_of_getElem? (i := 50) rfl)
theorem wt_771 : w_771 ∈ gx_Ts := gx_Ts_c12 (List.mem_of_getElem? (i := 51) rfl)
theorem wt_772 : w_772 ∈ gx_Ts := gx_Ts_c12 (List.mem_of_getElem? (i := 52) rfl)
theorem wt_773 : w_773 ∈ gx_Ts := gx_Ts_c12 (List.mem_of_getElem? (i := 53) rfl)
theorem wt_774 : w_774 ∈ gx_Ts := gx_Ts_c12 (List.mem_of_getElem? (i := 54) rfl)
theorem wt_775 : w_775 ∈ gx_Ts := gx_Ts_c12 (List.mem_of_getElem? (i := 55) rfl)
theorem wt_776 : w_776 ∈ gx_Ts := gx_Ts_c12 (List.mem_of_getElem? (i := 56) rfl)
theorem wt_777 : w_777 ∈ gx_Ts := gx_Ts_c12 (List.mem_of_getElem? (i := 57) rfl)
theorem wt_778 : w_778 ∈ gx_Ts := gx_Ts_c12 (List.mem_of_getElem? (i := 58) rfl)
theorem wt_779 : w_779 ∈ gx_Ts := gx_Ts_c12 (List.mem_of_getElem? (i := 59) rfl)
theorem wt_780 : w_780 ∈ gx_Ts := gx_Ts_c13 (List.mem_of_getElem? (i := 0) rfl)
theorem wt_781 : w_781 ∈ gx_Ts := gx_Ts_c13 (List.mem_of_getElem? (i := 1) rfl)
theorem wt_782 : w_782 ∈ gx_Ts := gx_Ts_c13 (List.mem_of_getElem? (i := 2) rfl)
theorem wt_783 : w_783 ∈ gx_Ts := gx_Ts_c13 (List.mem_of_getElem? (i := 3) rfl)
theorem wt_784 : w_784 ∈ gx_Ts := gx_Ts_c13 (List.mem_of_getElem? (i := 4) rfl)
theorem wt_785 : w_785 ∈ gx_Ts := gx_Ts_c13 (List.mem_of_getElem? (i := 5) rfl)
theorem wt_786 : w_786 ∈ gx_Ts := gx_Ts_c13 (List.mem_of_getElem? (i := 6) rfl)
theorem wt_787 : w_787 ∈ gx_Ts := gx_Ts_c13 (List.mem_of_getElem? (i := 7) rfl)
theorem wt_788 : w_788 ∈ gx_Ts := gx_Ts_c13 (List.mem_of_getElem? (i := 8) rfl)
theorem wt_789 : w_789 ∈ gx_Ts := gx_Ts_c13 (List.mem_of_getElem? (i := 9) rfl)
theorem wt_790 : w_790 ∈ gx_Ts := gx_Ts_c13 (List.mem_of_getElem? (i := 10) rfl)
theorem wt_791 : w_791 ∈ gx_Ts := gx_Ts_c13 (List.mem_of_getElem? (i := 11) rfl)
theorem wt_792 : w_792 ∈ gx_Ts := gx_Ts_c13 (List.mem_of_getElem? (i := 12) rfl)
theorem wt_793 : w_793 ∈ gx_Ts := gx_Ts_c13 (List.mem_of_getElem? (i := 13) rfl)
theorem wt_794 : w_794 ∈ gx_Ts := gx_Ts_c13 (List.mem_of_getElem? (i := 14) rfl)
theorem wt_795 : w_795 ∈ gx_Ts := gx_Ts_c13 (List.mem_of_getElem? (i := 15) rfl)
theorem wt_796 : w_796 ∈ gx_Ts := gx_Ts_c13 (List.mem_of_getElem? (i := 16) rfl)
theorem wt_797 : w_797 ∈ gx_Ts := gx_Ts_c13 (List.mem_of_getElem? (i := 17) rfl)
theorem wt_798 : w_798 ∈ gx_Ts := gx_Ts_c13 (List.mem_of_getElem? (i := 18) rfl)
theorem wt_799 : w_799 ∈ gx_Ts := gx_Ts_c13 (List.mem_of_getElem? (i := 19) rfl)
theorem wt_800 : w_800 ∈ gx_Ts := gx_Ts_c13 (List.mem_of_getElem? (i := 20) rfl)
theorem wt_801 : w_801 ∈ gx_Ts := gx_Ts_c13 (List.mem_of_getElem? (i := 21) rfl)
theorem wt_802 : w_802 ∈ gx_Ts := gx_Ts_c13 (List.mem_of_getElem? (i := 22) rfl)
theorem wt_803 : w_803 ∈ gx_Ts := gx_Ts_c13 (List.mem_of_getElem? (i := 23) rfl)
theorem wt_804 : w_804 ∈ gx_Ts := gx_Ts_c13 (List.mem_of_getElem? (i := 24) rfl)
theorem wt_805 : w_805 ∈ gx_Ts := gx_Ts_c13 (List.mem_of_getElem? (i := 25) rfl)
theorem wt_806 : w_806 ∈ gx_Ts := gx_Ts_c13 (List.mem_of_getElem? (i := 26) rfl)
theorem wt_807 : w_807 ∈ gx_Ts := gx_Ts_c13 (List.mem_of_getElem? (i := 27) rfl)
theorem wt_808 : w_808 ∈ gx_Ts := gx_Ts_c13 (List.mem_of_getElem? (i := 28) rfl)
theorem wt_809 : w_809 ∈ gx_Ts := gx_Ts_c13 (List.mem_of_getElem? (i := 29) rfl)
theorem wt_810 : w_810 ∈ gx_Ts := gx_Ts_c13 (List.mem_of_getElem? (i := 30) rfl)
theorem wt_811 : w_811 ∈ gx_Ts := gx_Ts_c13 (List.mem_of_getElem? (i := 31) rfl)
theorem wt_812 : w_812 ∈ gx_Ts := gx_Ts_c13 (List.mem_of_getElem? (i := 32) rfl)
theorem wt_813 : w_813 ∈ gx_Ts := gx_Ts_c13 (List.mem_of_getElem? (i := 33) rfl)
theorem wt_814 : w_814 ∈ gx_Ts := gx_Ts_c13 (List.mem_of_getElem? (i := 34) rfl)
theorem wt_815 : w_815 ∈ gx_Ts := gx_Ts_c13 (List.mem_of_getElem? (i := 35) rfl)
theorem wt_816 : w_816 ∈ gx_Ts := gx_Ts_c13 (List.mem_of_getElem? (i := 36) rfl)
theorem wt_817 : w_817 ∈ gx_Ts := gx_Ts_c13 (List.mem_of_getElem? (i := 37) rfl)
theorem wt_818 : w_818 ∈ gx_Ts := gx_Ts_c13 (List.mem_of_getElem? (i := 38) rfl)
theorem wt_819 : w_819 ∈ gx_Ts := gx_Ts_c13 (List.mem_of_getElem? (i := 39) rfl)
theorem wt_820 : w_820 ∈ gx_Ts := gx_Ts_c13 (List.mem_of_getElem? (i := 40) rfl)
theorem wt_821 : w_821 ∈ gx_Ts := gx_Ts_c13 (List.mem_of_getElem? (i := 41) rfl)
theorem wt_822 : w_822 ∈ gx_Ts := gx_Ts_c13 (List.mem_of_getElem? (i := 42) rfl)
theorem wt_823 : w_823 ∈ gx_Ts := gx_Ts_c13 (List.mem_of_getElem? (i := 43) rfl)
theorem wt_824 : w_824 ∈ gx_Ts := gx_Ts_c13 (List.mem_of_getElem? (i := 44) rfl)
theorem wt_825 : w_825 ∈ gx_Ts := gx_Ts_c13 (List.mem_of_getElem? (i := 45) rfl)
theorem wt_826 : w_826 ∈ gx_Ts := gx_Ts_c13 (List.mem_of_getElem? (i := 46) rfl)
theorem wt_827 : w_827 ∈ gx_Ts := gx_Ts_c13 (List.mem_of_getElem? (i := 47) rfl)
theorem wt_828 : w_828 ∈ gx_Ts := gx_Ts_c13 (List.mem_of_getElem? (i := 48) rfl)
theorem wt_829 : w_829 ∈ gx_Ts := gx_Ts_c13 (List.mem_of_getElem? (i := 49) rfl)
theorem wt_830 : w_830 ∈ gx_Ts := gx_Ts_c13 (List.mem_of_getElem? (i := 50) rfl)
theorem wt_831 : w_831 ∈ gx_Ts := gx_Ts_c13 (List.mem_of_getElem? (i := 51) rfl)
theorem wt_832 : w_832 ∈ gx_Ts := gx_Ts_c13 (List.mem_of_getElem? (i := 52) rfl)
theorem wt_833 : w_833 ∈ gx_Ts := gx_Ts_c13 (List.mem_of_getElem? (i := 53) rfl)
theorem wt_834 : w_834 ∈ gx_Ts := gx_Ts_c13 (List.mem_of_getElem? (i := 54) rfl)
theorem wt_835 : w_835 ∈ gx_Ts := gx_Ts_c13 (List.mem_of_getElem? (i := 55) rfl)
theorem wt_836 : w_836 ∈ gx_Ts := gx_Ts_c13 (List.mem_of_getElem? (i := 56) rfl)
theorem wt_837 : w_837 ∈ gx_Ts := gx_Ts_c13 (List.mem_of_getElem? (i := 57) rfl)
theorem wt_838 : w_838 ∈ gx_Ts := gx_Ts_c13 (List.mem_of_getElem? (i := 58) rfl)
theorem wt_839 : w_839 ∈ gx_Ts := gx_Ts_c13 (List.mem_of_getElem? (i := 59) rfl)
theorem wt_840 : w_840 ∈ gx_Ts := gx_Ts_c14 (List.mem_of_getElem? (i := 0) rfl)
theorem wt_841 : w_841 ∈ gx_Ts := gx_Ts_c14 (List.mem_of_getElem? (i := 1) rfl)
theorem wt_842 : w_842 ∈ gx_Ts := gx_Ts_c14 (List.mem_of_getElem? (i := 2) rfl)
theorem wt_843 : w_843 ∈ gx_Ts := gx_Ts_c14 (List.mem_of_getElem? (i := 3) rfl)
theorem wt_844 : w_844 ∈ gx_Ts := gx_Ts_c14 (List.mem_of_getElem? (i := 4) rfl)
theorem wt_845 : w_845 ∈ gx_Ts := gx_Ts_c14 (List.mem_of_getElem? (i := 5) rfl)
theorem wt_846 : w_846 ∈ gx_Ts := gx_Ts_c14 (List.mem_of_getElem? (i := 6) rfl)
theorem wt_847 : w_847 ∈ gx_Ts := gx_Ts_c14 (List.mem_of_getElem? (i := 7) rfl)
theorem wt_848 : w_848 ∈ gx_Ts := gx_Ts_c14 (List.mem_of_getElem? (i := 8) rfl)
theorem wt_849 : w_849 ∈ gx_Ts := gx_Ts_c14 (List.mem_of_getElem? (i := 9) rfl)
theorem wt_850 : w_850 ∈ gx_Ts := gx_Ts_c14 (List.mem_of_getElem? (i := 10) rfl)
theorem wt_851 : w_851 ∈ gx_Ts := gx_Ts_c14 (List.mem_of_getElem? (i := 11) rfl)
theorem wt_852 : w_852 ∈ gx_Ts := gx_Ts_c14 (List.mem_of_getElem? (i := 12) rfl)
theorem wt_853 : w_853 ∈ gx_Ts := gx_Ts_c14 (List.mem_of_getElem? (i := 13) rfl)
theorem wt_854 : w_854 ∈ gx_Ts := gx_Ts_c14 (List.mem_of_getElem? (i := 14) rfl)
theorem wt_855 : w_855 ∈ gx_Ts := gx_Ts_c14 (List.mem_of_getElem? (i := 15) rfl)
theorem wt_856 : w_856 ∈ gx_Ts := gx_Ts_c14 (List.mem_of_getElem? (i := 16) rfl)
theorem wt_857 : w_857 ∈ gx_Ts := gx_Ts_c14 (List.mem_of_getElem? (i := 17) rfl)
theorem wt_858 : w_858 ∈ gx_Ts := gx_Ts_c14 (List.mem_of_getElem? (i := 18) rfl)
theorem wt_859 : w_859 ∈ gx_Ts := gx_Ts_c14 (List.mem_of_getElem? (i := 19) rfl)
theorem wt_860 : w_860 ∈ gx_Ts := gx_Ts_c14 (List.mem_of_getElem? (i := 20) rfl)
theorem wt_861 : w_861 ∈ gx_Ts := gx_Ts_c14 (List.mem_of_getElem? (i := 21) rfl)
theorem wt_862 : w_862 ∈ gx_Ts := gx_Ts_c14 (List.mem_of_getElem? (i := 22) rfl)
theorem wt_863 : w_863 ∈ gx_Ts := gx_Ts_c14 (List.mem_of_getElem? (i := 23) rfl)
theorem wt_864 : w_864 ∈ gx_Ts := gx_Ts_c14 (List.mem_of_getElem? (i := 24) rfl)
theorem wt_865 : w_865 ∈ gx_Ts := gx_Ts_c14 (List.mem_of_getElem? (i := 25) rfl)
theorem wt_866 : w_866 ∈ gx_Ts := gx_Ts_c14 (List.mem_of_getElem? (i := 26) rfl)
theorem wt_867 : w_867 ∈ gx_Ts := gx_Ts_c14 (List.mem_of_getElem? (i := 27) rfl)
theorem wt_868 : w_868 ∈ gx_Ts := gx_Ts_c14 (List.mem_of_getElem? (i := 28) rfl)
theorem wt_869 : w_869 ∈ gx_Ts := gx_Ts_c14 (List.mem_of_getElem? (i := 29) rfl)
theorem wt_870 : w_870 ∈ gx_Ts := gx_Ts_c14 (List.mem_of_getElem? (i := 30) rfl)
theorem wt_871 : w_871 ∈ gx_Ts := gx_Ts_c14 (List.mem_of_getElem? (i := 31) rfl)
theorem wt_872 : w_872 ∈ gx_Ts := gx_Ts_c14 (List.mem_of_getElem? (i := 32) rfl)
theorem wt_873 : w_873 ∈ gx_Ts := gx_Ts_c14 (List.mem_of_getElem? (i := 33) rfl)
theorem wt_874 : w_874 ∈ gx_Ts := gx_Ts_c14 (List.mem_of_getElem? (i := 34) rfl)
theorem wt_875 : w_875 ∈ gx_Ts := gx_Ts_c14 (List.mem_of_getElem? (i := 35) rfl)
theorem wt_876 : w_876 ∈ gx_Ts := gx_Ts_c14 (List.mem_of_getElem? (i := 36) rfl)
theorem wt_877 : w_877 ∈ gx_Ts := gx_Ts_c14 (List.mem_of_getElem? (i := 37) rfl)
theorem wt_878 : w_878 ∈ gx_Ts := gx_Ts_c14 (List.mem_of_getElem? (i := 38) rfl)
theorem wt_879 : w_879 ∈ gx_Ts := gx_Ts_c14 (List.mem_of_getElem? (i := 39) rfl)
theorem wt_880 : w_880 ∈ gx_Ts := gx_Ts_c14 (List.mem_of_getElem? (i := 40) rfl)
theorem wt_881 : w_881 ∈ gx_Ts := gx_Ts_c14 (List.mem_of_getElem? (i := 41) rfl)
theorem wt_882 : w_882 ∈ gx_Ts := gx_Ts_c14 (List.mem_of_getElem? (i := 42) rfl)
theorem wt_883 : w_883 ∈ gx_Ts := gx_Ts_c14 (List.mem_of_getElem? (i := 43) rfl)
theorem wt_884 : w_884 ∈ gx_Ts := gx_Ts_c14 (List.mem_of_getElem? (i := 44) rfl)
theorem wt_885 : w_885 ∈ gx_Ts := gx_Ts_c14 (List.mem_of_getElem? (i := 45) rfl)
theorem wt_886 : w_886 ∈ gx_Ts := gx_Ts_c14 (List.mem_of_getElem? (i := 46) rfl)
theorem wt_887 : w_887 ∈ gx_Ts := gx_Ts_c14 (List.mem_of_getElem? (i := 47) rfl)
theorem wt_888 : w_888 ∈ gx_Ts := gx_Ts_c14 (List.mem_of_getElem? (i := 48) rfl)
theorem wt_889 : w_889 ∈ gx_Ts := gx_Ts_c14 (List.mem_of_getElem? (i := 49) rfl)
theorem wt_890 : w_890 ∈ gx_Ts := gx_Ts_c14 (List.mem_of_getElem? (i := 50) rfl)
theorem wt_891 : w_891 ∈ gx_Ts := gx_Ts_c14 (List.mem_of_getElem? (i := 51) rfl)
theorem wt_892 : w_892 ∈ gx_Ts := gx_Ts_c14 (List.mem_of_getElem? (i := 52) rfl)
theorem wt_893 : w_893 ∈ gx_Ts := gx_Ts_c14 (List.mem_of_getElem? (i := 53) rfl)
theorem wt_894 : w_894 ∈ gx_Ts := gx_Ts_c14 (List.mem_of_getElem? (i := 54) rfl)
theorem wt_895 : w_895 ∈ gx_Ts := gx_Ts_c14 (List.mem_of_getElem? (i := 55) rfl)
theorem wt_896 : w_896 ∈ gx_Ts := gx_Ts_c14 (List.mem_of_getElem? (i := 56) rfl)
theorem wt_897 : w_897 ∈ gx_Ts := gx_Ts_c14 (List.mem_of_getElem? (i := 57) rfl)
theorem wt_898 : w_898 ∈ gx_Ts := gx_Ts_c14 (List.mem_of_getElem? (i := 58) rfl)
theorem wt_899 : w_899 ∈ gx_Ts := gx_Ts_c14 (List.mem_of_getElem? (i := 59) rfl)
theorem wt_900 : w_900 ∈ gx_Ts := gx_Ts_c15 (List.mem_of_getElem? (i := 0) rfl)
theorem wt_901 : w_901 ∈ gx_Ts := gx_Ts_c15 (List.mem_of_getElem? (i := 1) rfl)
theorem wt_902 : w_902 ∈ gx_Ts := gx_Ts_c15 (List.mem_of_getElem? (i := 2) rfl)
theorem wt_903 : w_903 ∈ gx_Ts := gx_Ts_c15 (List.mem_of_getElem? (i := 3) rfl)
theorem wt_904 : w_904 ∈ gx_Ts := gx_Ts_c15 (List.mem_of_getElem? (i := 4) rfl)
theorem wt_905 : w_905 ∈ gx_Ts := gx_Ts_c15 (List.mem_of_getElem? (i := 5) rfl)
theorem wt_906 : w_906 ∈ gx_Ts := gx_Ts_c15 (List.mem_of_getElem? (i := 6) rfl)
theorem wt_907 : w_907 ∈ gx_Ts := gx_Ts_c15 (List.mem_of_getElem? (i := 7) rfl)
theorem wt_908 : w_908 ∈ gx_Ts := gx_Ts_c15 (List.mem_of_getElem? (i := 8) rfl)
theorem wt_909 : w_909 ∈ gx_Ts := gx_Ts_c15 (List.mem_of_getElem? (i := 9) rfl)
theorem wt_910 : w_910 ∈ gx_Ts := gx_Ts_c15 (List.mem_of_getElem? (i := 10) rfl)
theorem wt_911 : w_911 ∈ gx_Ts := gx_Ts_c15 (List.mem_of_getElem? (i := 11) rfl)
theorem wt_912 : w_912 ∈ gx_Ts := gx_Ts_c15 (List.mem_of_getElem? (i := 12) rfl)
theorem wt_913 : w_913 ∈ gx_Ts := gx_Ts_c15 (List.mem_of_getElem? (i := 13) rfl)
theorem wt_914 : w_914 ∈ gx_Ts := gx_Ts_c15 (List.mem_of_getElem? (i := 14) rfl)
theorem wt_915 : w_915 ∈ gx_Ts := gx_Ts_c15 (List.mem_of_getElem? (i := 15) rfl)
theorem wt_916 : w_916 ∈ gx_Ts := gx_Ts_c15 (List.mem_of_getElem? (i := 16) rfl)
theorem wt_917 : w_917 ∈ gx_Ts := gx_Ts_c15 (List.mem_of_getElem? (i := 17) rfl)
theorem wt_918 : w_918 ∈ gx_Ts := gx_Ts_c15 (List.mem_of_getElem? (i := 18) rfl)
theorem wt_919 : w_919 ∈ gx_Ts := gx_Ts_c15 (List.mem_of_getElem? (i := 19) rfl)
theorem wt_920 : w_920 ∈ gx_Ts := gx_Ts_c15 (List.mem_of_getElem? (i := 20) rfl)
theorem wt_921 : w_921 ∈ gx_Ts := gx_Ts_c15 (List.mem_of_getElem? (i := 21) rfl)
theorem wt_922 : w_922 ∈ gx_Ts := gx_Ts_c15 (List.mem_of_getElem? (i := 22) rfl)
theorem wt_923 : w_923 ∈ gx_Ts := gx_Ts_c15 (List.mem_of_getElem? (i := 23) rfl)
theorem wt_924 : w_924 ∈ gx_Ts := gx_Ts_c15 (List.mem_of_getElem? (i := 24) rfl)
theorem wt_925 : w_925 ∈ gx_Ts := gx_Ts_c15 (List.mem_of_getElem? (i := 25) rfl)
theorem wt_926 : w_926 ∈ gx_Ts := gx_Ts_c15 (List.mem_of_getElem? (i := 26) rfl)
theorem wt_927 : w_927 ∈ gx_Ts := gx_Ts_c15 (List.mem_of_getElem? (i := 27) rfl)
theorem wt_928 : w_928 ∈ gx_Ts := gx_Ts_c15 (List.mem_of_getElem? (i := 28) rfl)
theorem wt_929 : w_929 ∈ gx_Ts := gx_Ts_c15 (List.mem_of_getElem? (i := 29) rfl)
theorem wt_930 : w_930 ∈ gx_Ts := gx_Ts_c15 (List.mem_of_getElem? (i := 30) rfl)
theorem wt_931 : w_931 ∈ gx_Ts := gx_Ts_c15 (List.mem_of_getElem? (i := 31) rfl)
theorem wt_932 : w_932 ∈ gx_Ts := gx_Ts_c15 (List.mem_of_getElem? (i := 32) rfl)
theorem wt_933 : w_933 ∈ gx_Ts := gx_Ts_c15 (List.mem_of_getElem? (i := 33) rfl)
theorem wt_934 : w_934 ∈ gx_Ts := gx_Ts_c15 (List.mem_of_getElem? (i := 34) rfl)
theorem wt_935 : w_935 ∈ gx_Ts := gx_Ts_c15 (List.mem_of_getElem? (i := 35) rfl)
theorem wt_936 : w_936 ∈ gx_Ts := gx_Ts_c15 (List.mem_of_getElem? (i := 36) rfl)
theorem wt_937 : w_937 ∈ gx_Ts := gx_Ts_c15 (List.mem_of_getElem? (i := 37) rfl)
theorem wt_938 : w_938 ∈ gx_Ts := gx_Ts_c15 (List.mem_of_getElem? (i := 38) rfl)
theorem wt_939 : w_939 ∈ gx_Ts := gx_Ts_c15 (List.mem_of_getElem? (i := 39) rfl)
theorem wt_940 : w_940 ∈ gx_Ts := gx_Ts_c15 (List.mem_of_getElem? (i := 40) rfl)
theorem wt_941 : w_941 ∈ gx_Ts := gx_Ts_c15 (List.mem_of_getElem? (i := 41) rfl)
theorem wt_942 : w_942 ∈ gx_Ts := gx_Ts_c15 (List.mem_of_getElem? (i := 42) rfl)
theorem wt_943 : w_943 ∈ gx_Ts := gx_Ts_c15 (List.mem_of_getElem? (i := 43) rfl)
theorem wt_944 : w_944 ∈ gx_Ts := gx_Ts_c15 (List.mem_of_getElem? (i := 44) rfl)
theorem wt_945 : w_945 ∈ gx_Ts := gx_Ts_c15 (List.mem_of_getElem? (i := 45) rfl)
theorem wt_946 : w_946 ∈ gx_Ts := gx_Ts_c15 (List.mem_of_getElem? (i := 46) rfl)
theorem wt_947 : w_947 ∈ gx_Ts := gx_Ts_c15 (List.mem_of_getElem? (i := 47) rfl)
theorem wt_948 : w_948 ∈ gx_Ts := gx_Ts_c15 (List.mem_of_getElem? (i := 48) rfl)
theorem wt_949 : w_949 ∈ gx_Ts := gx_Ts_c15 (List.mem_of_getElem? (i := 49) rfl)
theorem wt_950 : w_950 ∈ gx_Ts := gx_Ts_c15 (List.mem_of_getElem? (i := 50) rfl)
theorem wt_951 : w_951 ∈ gx_Ts := gx_Ts_c15 (List.mem_of_getElem? (i := 51) rfl)
theorem wt_952 : w_952 ∈ gx_Ts := gx_Ts_c15 (List.mem_of_getElem? (i := 52) rfl)
theorem wt_953 : w_953 ∈ gx_Ts := gx_Ts_c15 (List.mem_of_getElem? (i := 53) rfl)
theorem wt_954 : w_954 ∈ gx_Ts := gx_Ts_c15 (List.mem_of_getElem? (i := 54) rfl)
theorem wt_955 : w_955 ∈ gx_Ts := gx_Ts_c15 (List.mem_of_getElem? (i := 55) rfl)
theorem wt_956 : w_956 ∈ gx_Ts := gx_Ts_c15 (List.mem_of_getElem? (i := 56) rfl)
theorem wt_957 : w_957 ∈ gx_Ts := gx_Ts_c15 (List.mem_of_getElem? (i := 57) rfl)
theorem wt_958 : w_958 ∈ gx_Ts := gx_Ts_c15 (List.mem_of_getElem? (i := 58) rfl)
theorem wt_959 : w_959 ∈ gx_Ts := gx_Ts_c15 (List.mem_of_getElem? (i := 59) rfl)
theorem wt_960 : w_960 ∈ gx_Ts := gx_Ts_c16 (List.mem_of_getElem? (i := 0) rfl)
theorem wt_961 : w_961 ∈ gx_Ts := gx_Ts_c16 (List.mem_of_getElem? (i := 1) rfl)
theorem wt_962 : w_962 ∈ gx_Ts := gx_Ts_c16 (List.mem_of_getElem? (i := 2) rfl)
theorem wt_963 : w_963 ∈ gx_Ts := gx_Ts_c16 (List.mem_of_getElem? (i := 3) rfl)
theorem wt_964 : w_964 ∈ gx_Ts := gx_Ts_c16 (List.mem_of_getElem? (i := 4) rfl)
theorem wt_965 : w_965 ∈ gx_Ts := gx_Ts_c16 (List.mem_of_getElem? (i := 5) rfl)
theorem wt_966 : w_966 ∈ gx_Ts := gx_Ts_c16 (List.mem_of_getElem? (i := 6) rfl)
theorem wt_967 : w_967 ∈ gx_Ts := gx_Ts_c16 (List.mem_of_getElem? (i := 7) rfl)
theorem wt_968 : w_968 ∈ gx_Ts := gx_Ts_c16 (List.mem_of_getElem? (i := 8) rfl)
theorem wt_969 : w_969 ∈ gx_Ts := gx_Ts_c16 (List.mem_of_getElem? (i := 9) rfl)
theorem wt_970 : w_970 ∈ gx_Ts := gx_Ts_c16 (List.mem_of_getElem? (i := 10) rfl)
theorem wt_971 : w_971 ∈ gx_Ts := gx_Ts_c16 (List.mem_of_getElem? (i := 11) rfl)
theorem wt_972 : w_972 ∈ gx_Ts := gx_Ts_c16 (List.mem_of_getElem? (i := 12) rfl)
theorem wt_973 : w_973 ∈ gx_Ts := gx_Ts_c16 (List.mem_of_getElem? (i := 13) rfl)
theorem wt_974 : w_974 ∈ gx_Ts := gx_Ts_c16 (List.mem_of_getElem? (i := 14) rfl)
theorem wt_975 : w_975 ∈ gx_Ts := gx_Ts_c16 (List.mem_of_getElem? (i := 15) rfl)
theorem wt_976 : w_976 ∈ gx_Ts := gx_Ts_c16 (List.mem_of_getElem? (i := 16) rfl)
theorem wt_977 : w_977 ∈ gx_Ts := gx_Ts_c16 (List.mem_of_getElem? (i := 17) rfl)
theorem wt_978 : w_978 ∈ gx_Ts := gx_Ts_c16 (List.mem_of_getElem? (i := 18) rfl)
theorem wt_979 : w_979 ∈ gx_Ts := gx_Ts_c16 (List.mem_of_getElem? (i := 19) rfl)
theorem wt_980 : w_980 ∈ gx_Ts := gx_Ts_c16 (List.mem_of_getElem? (i := 20) rfl)
theorem wt_981 : w_981 ∈ gx_Ts := gx_Ts_c16 (List.mem_of_getElem? (i := 21) rfl)
theorem wt_982 : w_982 ∈ gx_Ts := gx_Ts_c16 (List.mem_of_getElem? (i := 22) rfl)
theorem wt_983 : w_983 ∈ gx_Ts := gx_Ts_c16 (List.mem_of_getElem? (i := 23) rfl)
theorem wt_984 : w_984 ∈ gx_Ts := gx_Ts_c16 (List.mem_of_getElem? (i := 24) rfl)
theorem wt_985 : w_985 ∈ gx_Ts := gx_Ts_c16 (List.mem_of_getElem? (i := 25) rfl)
theorem wt_986 : w_986 ∈ gx_Ts := gx_Ts_c16 (List.mem_of_getElem? (i := 26) rfl)
theorem wt_987 : w_987 ∈ gx_Ts := gx_Ts_c16 (List.mem_of_getElem? (i := 27) rfl)
theorem wt_988 : w_988 ∈ gx_Ts := gx_Ts_c16 (List.mem_of_getElem? (i := 28) rfl)
theorem wt_989 : w_989 ∈ gx_Ts := gx_Ts_c16 (List.mem_of_getElem? (i := 29) rfl)
theorem wt_990 : w_990 ∈ gx_Ts := gx_Ts_c16 (List.mem_of_getElem? (i := 30) rfl)
theorem wt_991 : w_991 ∈ gx_Ts := gx_Ts_c16 (List.mem_of_getElem? (i := 31) rfl)
theorem wt_992 : w_992 ∈ gx_Ts := gx_Ts_c16 (List.mem_of_getElem? (i := 32) rfl)
theorem wt_993 : w_993 ∈ gx_Ts := gx_Ts_c16 (List.mem_of_getElem? (i := 33) rfl)
theorem wt_994 : w_994 ∈ gx_Ts := gx_Ts_c16 (List.mem_of_getElem? (i := 34) rfl)
theorem wt_995 : w_995 ∈ gx_Ts := gx_Ts_c16 (List.mem_of_getElem? (i := 35) rfl)
theorem wt_996 : w_996 ∈ gx_Ts := gx_Ts_c16 (List.mem_of_getElem? (i := 36) rfl)
theorem wt_997 : w_997 ∈ gx_Ts := gx_Ts_c16 (List.mem_of_getElem? (i := 37) rfl)
theorem wt_998 : w_998 ∈ gx_Ts := gx_Ts_c16 (List.mem_of_getElem? (i := 38) rfl)
theorem wt_999 : w_999 ∈ gx_Ts := gx_Ts_c16 (List.mem_of_getElem? (i := 39) rfl)
theorem wt_1000 : w_1000 ∈ gx_Ts := gx_Ts_c16 (List.mem_of_getElem? (i := 40) rfl)
theorem wt_1001 : w_1001 ∈ gx_Ts := gx_Ts_c16 (List.mem_of_getElem? (i := 41) rfl)
theorem wt_1002 : w_1002 ∈ gx_Ts := gx_Ts_c16 (List.mem_of_getElem? (i := 42) rfl)
theorem wt_1003 : w_1003 ∈ gx_Ts := gx_Ts_c16 (List.mem_of_getElem? (i := 43) rfl)
theorem wt_1004 : w_1004 ∈ gx_Ts := gx_Ts_c16 (List.mem_of_getElem? (i := 44) rfl)
theorem wt_1005 : w_1005 ∈ gx_Ts := gx_Ts_c16 (List.mem_of_getElem? (i := 45) rfl)
theorem wt_1006 : w_1006 ∈ gx_Ts := gx_Ts_c16 (List.mem_of_getElem? (i := 46) rfl)
theorem wt_1007 : w_1007 ∈ gx_Ts := gx_Ts_c16 (List.mem_of_getElem? (i := 47) rfl)
theorem wt_1008 : w_1008 ∈ gx_Ts := gx_Ts_c16 (List.mem_of_getElem? (i := 48) rfl)
theorem wt_1009 : w_1009 ∈ gx_Ts := gx_Ts_c16 (List.mem_of_getElem? (i := 49) rfl)
theorem wt_1010 : w_1010 ∈ gx_Ts := gx_Ts_c16 (List.mem_of_getElem? (i := 50) rfl)
theorem wt_1011 : w_1011 ∈ gx_Ts := gx_Ts_c16 (List.mem_of_getElem? (i := 51) rfl)
theorem wt_1012 : w_1012 ∈ gx_Ts := gx_Ts_c16 (List.mem_of_getElem? (i := 52) rfl)
theorem wt_1013 : w_1013 ∈ gx_Ts := gx_Ts_c16 (List.mem_of_getElem? (i := 53) rfl)
theorem wt_1014 : w_1014 ∈ gx_Ts := gx_Ts_c16 (List.mem_of_getElem? (i := 54) rfl)
theorem wt_1015 : w_1015 ∈ gx_Ts := gx_Ts_c16 (List.mem_of_getElem? (i := 55) rfl)
theorem wt_1016 : w_1016 ∈ gx_Ts := gx_Ts_c16 (List.mem_of_getElem? (i := 56) rfl)
theorem wt_1017 : w_1017 ∈ gx_Ts := gx_Ts_c16 (List.mem_of_getElem? (i := 57) rfl)
theorem wt_1018 : w_1018 ∈ gx_Ts := gx_Ts_c16 (List.mem_of_getElem? (i := 58) rfl)
theorem wt_1019 : w_1019 ∈ gx_Ts := gx_Ts_c16 (List.mem_of_getElem? (i := 59) rfl)
theorem wt_1020 : w_1020 ∈ gx_Ts := gx_Ts_c17 (List.mem_of_getElem? (i := 0) rfl)
theorem wt_1021 : w_1021 ∈ gx_Ts := gx_Ts_c17 (List.mem_of_getElem? (i := 1) rfl)
theorem wt_1022 : w_1022 ∈ gx_Ts := gx_Ts_c17 (List.mem_of_getElem? (i := 2) rfl)
theorem wt_1023 : w_1023 ∈ gx_Ts := gx_Ts_c17 (List.mem_of_getElem? (i := 3) rfl)
theorem wt_1024 : w_1024 ∈ gx_Ts := gx_Ts_c17 (List.mem_of_getElem? (i := 4) rfl)
theorem wt_1025 : w_1025 ∈ gx_Ts := gx_Ts_c17 (List.mem_of_getElem? (i := 5) rfl)
theorem wt_1026 : w_1026 ∈ gx_Ts := gx_Ts_c17 (List.mem_of_getElem? (i := 6) rfl)
theorem wt_1027 : w_1027 ∈ gx_Ts := gx_Ts_c17 (List.mem_of_getElem? (i := 7) rfl)
theorem wt_1028 : w_1028 ∈ gx_Ts := gx_Ts_c17 (List.mem_of_getElem? (i := 8) rfl)
theorem wt_1029 : w_1029 ∈ gx_Ts := gx_Ts_c17 (List.mem_of_getElem? (i := 9) rfl)
theorem wt_1030 : w_1030 ∈ gx_Ts := gx_Ts_c17 (List.mem_of_getElem? (i := 10) rfl)
theorem wt_1031 : w_1031 ∈ gx_Ts := gx_Ts_c17 (List.mem_of_getElem? (i := 11) rfl)
theorem wt_1032 : w_1032 ∈ gx_Ts := gx_Ts_c17 (List.mem_of_getElem? (i := 12) rfl)
theorem wt_1033 : w_1033 ∈ gx_Ts := gx_Ts_c17 (List.mem_of_getElem? (i := 13) rfl)
theorem wt_1034 : w_1034 ∈ gx_Ts := gx_Ts_c17 (List.mem_of_getElem? (i := 14) rfl)
theorem wt_1035 : w_1035 ∈ gx_Ts := gx_Ts_c17 (List.mem_of_getElem? (i := 15) rfl)
theorem wt_1036 : w_1036 ∈ gx_Ts := gx_Ts_c17 (List.mem_of_getElem? (i := 16) rfl)
theorem wt_1037 : w_1037 ∈ gx_Ts := gx_Ts_c17 (List.mem_of_getElem? (i := 17) rfl)
theorem wt_1038 : w_1038 ∈ gx_Ts := gx_Ts_c17 (List.mem_of_getElem? (i := 18) rfl)
theorem wt_1039 : w_1039 ∈ gx_Ts := gx_Ts_c17 (List.mem_of_getElem? (i := 19) rfl)
theorem wt_1040 : w_1040 ∈ gx_Ts := gx_Ts_c17 (List.mem_of_getElem? (i := 20) rfl)
theorem wt_1041 : w_1041 ∈ gx_Ts := gx_Ts_c17 (List.mem_of_getElem? (i := 21) rfl)
theorem wt_1042 : w_1042 ∈ gx_Ts := gx_Ts_c17 (List.mem_of_getElem? (i := 22) rfl)
theorem wt_1043 : w_1043 ∈ gx_Ts := gx_Ts_c17 (List.mem_of_getElem? (i := 23) rfl)
theorem wt_1044 : w_1044 ∈ gx_Ts := gx_Ts_c17 (List.mem_of_getElem? (i := 24) rfl)
theorem wt_1045 : w_1045 ∈ gx_Ts := gx_Ts_c17 (List.mem_of_getElem? (i := 25) rfl)
theorem wt_1046 : w_1046 ∈ gx_Ts := gx_Ts_c17 (List.mem_of_getElem? (i := 26) rfl)
theorem wt_1047 : w_1047 ∈ gx_Ts := gx_Ts_c17 (List.mem_of_getElem? (i := 27) rfl)
theorem wt_1048 : w_1048 ∈ gx_Ts := gx_Ts_c17 (List.mem_of_getElem? (i := 28) rfl)
theorem wt_1049 : w_1049 ∈ gx_Ts := gx_Ts_c17 (List.mem_of_getElem? (i := 29) rfl)
theorem wt_1050 : w_1050 ∈ gx_Ts := gx_Ts_c17 (List.mem_of_getElem? (i := 30) rfl)
theorem wt_1051 : w_1051 ∈ gx_Ts := gx_Ts_c17 (List.mem_of_getElem? (i := 31) rfl)
theorem wt_1052 : w_1052 ∈ gx_Ts := gx_Ts_c17 (List.mem_of_getElem? (i := 32) rfl)
theorem wt_1053 : w_1053 ∈ gx_Ts := gx_Ts_c17 (List.mem_of_getElem? (i := 33) rfl)
theorem wt_1054 : w_1054 ∈ gx_Ts := gx_Ts_c17 (List.mem_of_getElem? (i := 34) rfl)
theorem wt_1055 : w_1055 ∈ gx_Ts := gx_Ts_c17 (List.mem_of_getElem? (i := 35) rfl)
theorem wt_1056 : w_1056 ∈ gx_Ts := gx_Ts_c17 (List.mem_of_getElem? (i := 36) rfl)
theorem wt_1057 : w_1057 ∈ gx_Ts := gx_Ts_c17 (List.mem_of_getElem? (i := 37) rfl)
theorem wt_1058 : w_1058 ∈ gx_Ts := gx_Ts_c17 (List.mem_of_getElem? (i := 38) rfl)
theorem wt_1059 : w_1059 ∈ gx_Ts := gx_Ts_c17 (List.mem_of_getElem? (i := 39) rfl)
theorem wt_1060 : w_1060 ∈ gx_Ts := gx_Ts_c17 (List.mem_of_getElem? (i := 40) rfl)
theorem wt_1061 : w_1061 ∈ gx_Ts := gx_Ts_c17 (List.mem_of_getElem? (i := 41) rfl)
theorem wt_1062 : w_1062 ∈ gx_Ts := gx_Ts_c17 (List.mem_of_getElem? (i := 42) rfl)
theorem wt_1063 : w_1063 ∈ gx_Ts := gx_Ts_c17 (List.mem_of_getElem? (i := 43) rfl)
theorem wt_1064 : w_1064 ∈ gx_Ts := gx_Ts_c17 (List.mem_of_getElem? (i := 44) rfl)
theorem wt_1065 : w_1065 ∈ gx_Ts := gx_Ts_c17 (List.mem_of_getElem? (i := 45) rfl)
theorem wt_1066 : w_1066 ∈ gx_Ts := gx_Ts_c17 (List.mem_of_getElem? (i := 46) rfl)
theorem wt_1067 : w_1067 ∈ gx_Ts := gx_Ts_c17 (List.mem_of_getElem? (i := 47) rfl)
theorem wt_1068 : w_1068 ∈ gx_Ts := gx_Ts_c17 (List.mem_of_getElem? (i := 48) rfl)
theorem wt_1069 : w_1069 ∈ gx_Ts := gx_Ts_c17 (List.mem_of_getElem? (i := 49) rfl)
theorem wt_1070 : w_1070 ∈ gx_Ts := gx_Ts_c17 (List.mem_of_getElem? (i := 50) rfl)
theorem wt_1071 : w_1071 ∈ gx_Ts := gx_Ts_c17 (List.mem_of_getElem? (i := 51) rfl)
theorem wt_1072 : w_1072 ∈ gx_Ts := gx_Ts_c17 (List.mem_of_getElem? (i := 52) rfl)
theorem wt_1073 : w_1073 ∈ gx_Ts := gx_Ts_c17 (List.mem_of_getElem? (i := 53) rfl)
theorem wt_1074 : w_1074 ∈ gx_Ts := gx_Ts_c17 (List.mem_of_getElem? (i := 54) rfl)
theorem wt_1075 : w_1075 ∈ gx_Ts := gx_Ts_c17 (List.mem_of_getElem? (i := 55) rfl)
theorem wt_1076 : w_1076 ∈ gx_Ts := gx_Ts_c17 (List.mem_of_getElem? (i := 56) rfl)
theorem wt_1077 : w_1077 ∈ gx_Ts := gx_Ts_c17 (List.mem_of_getElem? (i := 57) rfl)
theorem wt_1078 : w_1078 ∈ gx_Ts := gx_Ts_c17 (List.mem_of_getElem? (i := 58) rfl)
theorem wt_1079 : w_1079 ∈ gx_Ts := gx_Ts_c17 (List.mem_of_getElem? (i := 59) rfl)
theorem wt_1080 : w_1080 ∈ gx_Ts := gx_Ts_c18 (List.mem_of_getElem? (i := 0) rfl)
theorem wt_1081 : w_1081 ∈ gx_Ts := gx_Ts_c18 (List.mem_of_getElem? (i := 1) rfl)
theorem wt_1082 : w_1082 ∈ gx_Ts := gx_Ts_c18 (List.mem_of_getElem? (i := 2) rfl)
theorem wt_1083 : w_1083 ∈ gx_Ts := gx_Ts_c18 (List.mem_of_getElem? (i := 3) rfl)
theorem wt_1084 : w_1084 ∈ gx_Ts := gx_Ts_c18 (List.mem_of_getElem? (i := 4) rfl)
theorem wt_1085 : w_1085 ∈ gx_Ts := gx_Ts_c18 (List.mem_of_getElem? (i := 5) rfl)
theorem wt_1086 : w_1086 ∈ gx_Ts := gx_Ts_c18 (List.mem_of_getElem? (i := 6) rfl)
theorem wt_1087 : w_1087 ∈ gx_Ts := gx_Ts_c18 (List.mem_of_getElem? (i := 7) rfl)
theorem wt_1088 : w_1088 ∈ gx_Ts := gx_Ts_c18 (List.mem_of_getElem? (i := 8) rfl)
theorem wt_1089 : w_1089 ∈ gx_Ts := gx_Ts_c18 (List.mem_of_getElem? (i := 9) rfl)
theorem wt_1090 : w_1090 ∈ gx_Ts := gx_Ts_c18 (List.mem_of_getElem? (i := 10) rfl)
theorem wt_1091 : w_1091 ∈ gx_Ts := gx_Ts_c18 (List.mem_of_getElem? (i := 11) rfl)
theorem wt_1092 : w_1092 ∈ gx_Ts := gx_Ts_c18 (List.mem_of_getElem? (i := 12) rfl)
theorem wt_1093 : w_1093 ∈ gx_Ts := gx_Ts_c18 (List.mem_of_getElem? (i := 13) rfl)
theorem wt_1094 : w_1094 ∈ gx_Ts := gx_Ts_c18 (List.mem_of_getElem? (i := 14) rfl)
theorem wt_1095 : w_1095 ∈ gx_Ts := gx_Ts_c18 (List.mem_of_getElem? (i := 15) rfl)
theorem wt_1096 : w_1096 ∈ gx_Ts := gx_Ts_c18 (List.mem_of_getElem? (i := 16) rfl)
theorem wt_1097 : w_1097 ∈ gx_Ts := gx_Ts_c18 (List.mem_of_getElem? (i := 17) rfl)
theorem wt_1098 : w_1098 ∈ gx_Ts := gx_Ts_c18 (List.mem_of_getElem? (i := 18) rfl)
theorem wt_1099 : w_1099 ∈ gx_Ts := gx_Ts_c18 (List.mem_of_getElem? (i := 19) rfl)
theorem wt_1100 : w_1100 ∈ gx_Ts := gx_Ts_c18 (List.mem_of_getElem? (i := 20) rfl)
theorem wt_1101 : w_1101 ∈ gx_Ts := gx_Ts_c18 (List.mem_of_getElem? (i := 21) rfl)
theorem wt_1102 : w_1102 ∈ gx_Ts := gx_Ts_c18 (List.mem_of_getElem? (i := 22) rfl)
theorem wt_1103 : w_1103 ∈ gx_Ts := gx_Ts_c18 (List.mem_of_getElem? (i := 23) rfl)
theorem wt_1104 : w_1104 ∈ gx_Ts := gx_Ts_c18 (List.mem_of_getElem? (i := 24) rfl)
theorem wt_1105 : w_1105 ∈ gx_Ts := gx_Ts_c18 (List.mem_of_getElem? (i := 25) rfl)
theorem wt_1106 : w_1106 ∈ gx_Ts := gx_Ts_c18 (List.mem_of_getElem? (i := 26) rfl)
theorem wt_1107 : w_1107 ∈ gx_Ts := gx_Ts_c18 (List.mem_of_getElem? (i := 27) rfl)
theorem wt_1108 : w_1108 ∈ gx_Ts := gx_Ts_c18 (List.mem_of_getElem? (i := 28) rfl)
theorem wt_1109 : w_1109 ∈ gx_Ts := gx_Ts_c18 (List.mem_of_getElem? (i := 29) rfl)
theorem wt_1110 : w_1110 ∈ gx_Ts := gx_Ts_c18 (List.mem_of_getElem? (i := 30) rfl)
theorem wt_1111 : w_1111 ∈ gx_Ts := gx_Ts_c18 (List.mem_of_getElem? (i := 31) rfl)
theorem wt_1112 : w_1112 ∈ gx_Ts := gx_Ts_c18 (List.mem_of_getElem? (i := 32) rfl)
theorem wt_1113 : w_1113 ∈ gx_Ts := gx_Ts_c18 (List.mem_of_getElem? (i := 33) rfl)
theorem wt_1114 : w_1114 ∈ gx_Ts := gx_Ts_c18 (List.mem_of_getElem? (i := 34) rfl)
theorem wt_1115 : w_1115 ∈ gx_Ts := gx_Ts_c18 (List.mem_of_getElem? (i := 35) rfl)
theorem wt_1116 : w_1116 ∈ gx_Ts := gx_Ts_c18 (List.mem_of_getElem? (i := 36) rfl)
theorem wt_1117 : w_1117 ∈ gx_Ts := gx_Ts_c18 (List.mem_of_getElem? (i := 37) rfl)
theorem wt_1118 : w_1118 ∈ gx_Ts := gx_Ts_c18 (List.mem_of_getElem? (i := 38) rfl)
theorem wt_1119 : w_1119 ∈ gx_Ts := gx_Ts_c18 (List.mem_of_getElem? (i := 39) rfl)
theorem wt_1120 : w_1120 ∈ gx_Ts := gx_Ts_c18 (List.mem_of_getElem? (i := 40) rfl)
theorem wt_1121 : w_1121 ∈ gx_Ts := gx_Ts_c18 (List.mem_of_getElem? (i := 41) rfl)
theorem wt_1122 : w_1122 ∈ gx_Ts := gx_Ts_c18 (List.mem_of_getElem? (i := 42) rfl)
theorem wt_1123 : w_1123 ∈ gx_Ts := gx_Ts_c18 (List.mem_of_getElem? (i := 43) rfl)
theorem wt_1124 : w_1124 ∈ gx_Ts := gx_Ts_c18 (List.mem_of_getElem? (i := 44) rfl)
theorem wt_1125 : w_1125 ∈ gx_Ts := gx_Ts_c18 (List.mem_of_getElem? (i := 45) rfl)
theorem wt_1126 : w_1126 ∈ gx_Ts := gx_Ts_c18 (List.mem_of_getElem? (i := 46) rfl)
theorem wt_1127 : w_1127 ∈ gx_Ts := gx_Ts_c18 (List.mem_of_getElem? (i := 47) rfl)
theorem wt_1128 : w_1128 ∈ gx_Ts := gx_Ts_c18 (List.mem_of_getElem? (i := 48) rfl)
theorem wt_1129 : w_1129 ∈ gx_Ts := gx_Ts_c18 (List.mem_of_getElem? (i := 49) rfl)
theorem wt_1130 : w_1130 ∈ gx_Ts := gx_Ts_c18 (List.mem_of_getElem? (i := 50) rfl)
theorem wt_1131 : w_1131 ∈ gx_Ts := gx_Ts_c18 (List.mem_of_getElem? (i := 51) rfl)
def gx_NW_0 : List Cond := [n_0, n_1, n_2, n_3, n_4, n_5, n_6, n_7]
theorem gx_NW_i0 : ∀ w ∈ gx_NW_0, w ∈ lw_tbl := List.forall_mem_cons.mpr ⟨lw_inT (q_1 (List.mem_of_getElem? (i := 27) rfl)), List.forall_mem_cons.mpr ⟨lw_inT (q_1 (List.mem_of_getElem? (i := 91) rfl)), List.forall_mem_cons.mpr ⟨lw_inT (q_1 (List.mem_of_getElem? (i := 129) rfl)), List.forall_mem_cons.mpr ⟨lw_inT (q_1 (List.mem_of_getElem? (i := 134) rfl)), List.forall_mem_cons.mpr ⟨lw_inT (q_1 (List.mem_of_getElem? (i := 32) rfl)), List.forall_mem_cons.mpr ⟨lw_inT (q_1 (List.mem_of_getElem? (i := 180) rfl)), List.forall_mem_cons.mpr ⟨lw_inT (q_3 (List.mem_of_getElem? (i := 203) rfl)), List.forall_mem_cons.mpr ⟨lw_inT (q_4 (List.mem_of_getElem? (i := 5) rfl)), fun _ h => absurd h List.not_mem_nil⟩⟩⟩⟩⟩⟩⟩⟩
def gx_NW : List Cond := gx_NW_0
theorem gx_NW_in : ∀ w ∈ gx_NW, w ∈ lw_tbl := by
  show ∀ w ∈ gx_NW_0, w ∈ lw_tbl
  exact gx_NW_i0
theorem gx_NW_c0 {w : Cond} (h : w ∈ gx_NW_0) : w ∈ gx_NW := h
theorem nt_0 : n_0 ∈ gx_NW := gx_NW_c0 (List.mem_of_getElem? (i := 0) rfl)
theorem nt_1 : n_1 ∈ gx_NW := gx_NW_c0 (List.mem_of_getElem? (i := 1) rfl)
theorem nt_2 : n_2 ∈ gx_NW := gx_NW_c0 (List.mem_of_getElem? (i := 2) rfl)
theorem nt_3 : n_3 ∈ gx_NW := gx_NW_c0 (List.mem_of_getElem? (i := 3) rfl)
theorem nt_4 : n_4 ∈ gx_NW := gx_NW_c0 (List.mem_of_getElem? (i := 4) rfl)
theorem nt_5 : n_5 ∈ gx_NW := gx_NW_c0 (List.mem_of_getElem? (i := 5) rfl)
theorem nt_6 : n_6 ∈ gx_NW := gx_NW_c0 (List.mem_of_getElem? (i := 6) rfl)
theorem nt_7 : n_7 ∈ gx_NW := gx_NW_c0 (List.mem_of_getElem? (i := 7) rfl)
theorem gx_Tsg_0 : ∀ w ∈ gx_Ts_0, (w.onTables && w.keeps) = true ∨ ∃ ty, w = .arrayClass ty := by
  have h : gx_Ts_0.all goodWord = true := by decide +kernel
  exact fun w hw => good_of_word (List.all_eq_true.mp h w hw)
theorem gx_Tsg_1 : ∀ w ∈ gx_Ts_1, (w.onTables && w.keeps) = true ∨ ∃ ty, w = .arrayClass ty := by
  have h : gx_Ts_1.all goodWord = true := by decide +kernel
  exact fun w hw => good_of_word (List.all_eq_true.mp h w hw)
theorem gx_Tsg_2 : ∀ w ∈ gx_Ts_2, (w.onTables && w.keeps) = true ∨ ∃ ty, w = .arrayClass ty := by
  have h : gx_Ts_2.all goodWord = true := by decide +kernel
  exact fun w hw => good_of_word (List.all_eq_true.mp h w hw)
theorem gx_Tsg_3 : ∀ w ∈ gx_Ts_3, (w.onTables && w.keeps) = true ∨ ∃ ty, w = .arrayClass ty := by
  have h : gx_Ts_3.all goodWord = true := by decide +kernel
  exact fun w hw => good_of_word (List.all_eq_true.mp h w hw)
theorem gx_Tsg_4 : ∀ w ∈ gx_Ts_4, (w.onTables && w.keeps) = true ∨ ∃ ty, w = .arrayClass ty := by
  have h : gx_Ts_4.all goodWord = true := by decide +kernel
  exact fun w hw => good_of_word (List.all_eq_true.mp h w hw)
theorem gx_Tsg_5 : ∀ w ∈ gx_Ts_5, (w.onTables && w.keeps) = true ∨ ∃ ty, w = .arrayClass ty := by
  have h : gx_Ts_5.all goodWord = true := by decide +kernel
  exact fun w hw => good_of_word (List.all_eq_true.mp h w hw)
theorem gx_Tsg_6 : ∀ w ∈ gx_Ts_6, (w.onTables && w.keeps) = true ∨ ∃ ty, w = .arrayClass ty := by
  have h : gx_Ts_6.all goodWord = true := by decide +kernel
  exact fun w hw => good_of_word (List.all_eq_true.mp h w hw)
theorem gx_Tsg_7 : ∀ w ∈ gx_Ts_7, (w.onTables && w.keeps) = true ∨ ∃ ty, w = .arrayClass ty := by
  have h : gx_Ts_7.all goodWord = true := by decide +kernel
  exact fun w hw => good_of_word (List.all_eq_true.mp h w hw)
theorem gx_Tsg_8 : ∀ w ∈ gx_Ts_8, (w.onTables && w.keeps) = true ∨ ∃ ty, w = .arrayClass ty := by
  have h : gx_Ts_8.all goodWord = true := by decide +kernel
  exact fun w hw => good_of_word (List.all_eq_true.mp h w hw)
theorem gx_Tsg_9 : ∀ w ∈ gx_Ts_9, (w.onTables && w.keeps) = true ∨ ∃ ty, w = .arrayClass ty := by
  have h : gx_Ts_9.all goodWord = true := by decide +kernel
  exact fun w hw => good_of_word (List.all_eq_true.mp h w hw)
theorem gx_Tsg_10 : ∀ w ∈ gx_Ts_10, (w.onTables && w.keeps) = true ∨ ∃ ty, w = .arrayClass ty := by
  have h : gx_Ts_10.all goodWord = true := by decide +kernel
  exact fun w hw => good_of_word (List.all_eq_true.mp h w hw)
theorem gx_Tsg_11 : ∀ w ∈ gx_Ts_11, (w.onTables && w.keeps) = true ∨ ∃ ty, w = .arrayClass ty := by
  have h : gx_Ts_11.all goodWord = true := by decide +kernel
  exact fun w hw => good_of_word (List.all_eq_true.mp h w hw)
theorem gx_Tsg_12 : ∀ w ∈ gx_Ts_12, (w.onTables && w.keeps) = true ∨ ∃ ty, w = .arrayClass ty := by
  have h : gx_Ts_12.all goodWord = true := by decide +kernel
  exact fun w hw => good_of_word (List.all_eq_true.mp h w hw)
theorem gx_Tsg_13 : ∀ w ∈ gx_Ts_13, (w.onTables && w.keeps) = true ∨ ∃ ty, w = .arrayClass ty := by
  have h : gx_Ts_13.all goodWord = true := by decide +kernel
  exact fun w hw => good_of_word (List.all_eq_true.mp h w hw)
theorem gx_Tsg_14 : ∀ w ∈ gx_Ts_14, (w.onTables && w.keeps) = true ∨ ∃ ty, w = .arrayClass ty := by
  have h : gx_Ts_14.all goodWord = true := by decide +kernel
  exact fun w hw => good_of_word (List.all_eq_true.mp h w hw)
theorem gx_Tsg_15 : ∀ w ∈ gx_Ts_15, (w.onTables && w.keeps) = true ∨ ∃ ty, w = .arrayClass ty := by
  have h : gx_Ts_15.all goodWord = true := by decide +kernel
  exact fun w hw => good_of_word (List.all_eq_true.mp h w hw)
theorem gx_Tsg_16 : ∀ w ∈ gx_Ts_16, (w.onTables && w.keeps) = true ∨ ∃ ty, w = .arrayClass ty := by
  have h : gx_Ts_16.all goodWord = true := by decide +kernel
  exact fun w hw => good_of_word (List.all_eq_true.mp h w hw)
theorem gx_Tsg_17 : ∀ w ∈ gx_Ts_17, (w.onTables && w.keeps) = true ∨ ∃ ty, w = .arrayClass ty := by
  have h : gx_Ts_17.all goodWord = true := by decide +kernel
  exact fun w hw => good_of_word (List.all_eq_true.mp h w hw)
theorem gx_Tsg_18 : ∀ w ∈ gx_Ts_18, (w.onTables && w.keeps) = true ∨ ∃ ty, w = .arrayClass ty := by
  have h : gx_Ts_18.all goodWord = true := by decide +kernel
  exact fun w hw => good_of_word (List.all_eq_true.mp h w hw)
theorem gx_Tsg : ∀ w ∈ gx_Ts, (w.onTables && w.keeps) = true ∨ ∃ ty, w = .arrayClass ty := by
  show ∀ w ∈ gx_Ts_0 ++ (gx_Ts_1 ++ (gx_Ts_2 ++ (gx_Ts_3 ++ (gx_Ts_4 ++ (gx_Ts_5 ++ (gx_Ts_6 ++ (gx_Ts_7 ++ (gx_Ts_8 ++ (gx_Ts_9 ++ (gx_Ts_10 ++ (gx_Ts_11 ++ (gx_Ts_12 ++ (gx_Ts_13 ++ (gx_Ts_14 ++ (gx_Ts_15 ++ (gx_Ts_16 ++ (gx_Ts_17 ++ (gx_Ts_18)))))))))))))))))), (w.onTables && w.keeps) = true ∨ ∃ ty, w = .arrayClass ty
  exact List.forall_mem_append.mpr ⟨gx_Tsg_0, List.forall_mem_append.mpr ⟨gx_Tsg_1, List.forall_mem_append.mpr ⟨gx_Tsg_2, List.forall_mem_append.mpr ⟨gx_Tsg_3, List.forall_mem_append.mpr ⟨gx_Tsg_4, List.forall_mem_append.mpr ⟨gx_Tsg_5, List.forall_mem_append.mpr ⟨gx_Tsg_6, List.forall_mem_append.mpr ⟨gx_Tsg_7, List.forall_mem_append.mpr ⟨gx_Tsg_8, List.forall_mem_append.mpr ⟨gx_Tsg_9, List.forall_mem_append.mpr ⟨gx_Tsg_10, List.forall_mem_append.mpr ⟨gx_Tsg_11, List.forall_mem_append.mpr ⟨gx_Tsg_12, List.forall_mem_append.mpr ⟨gx_Tsg_13, List.forall_mem_append.mpr ⟨gx_Tsg_14, List.forall_mem_append.mpr ⟨gx_Tsg_15, List.forall_mem_append.mpr ⟨gx_Tsg_16, List.forall_mem_append.mpr ⟨gx_Tsg_17, gx_Tsg_18⟩⟩⟩⟩⟩⟩⟩⟩⟩⟩⟩⟩⟩⟩⟩⟩⟩⟩
def gx_TY : List FieldType := [.int, .long, .char, .byte, .object "SignalHouse$Program", .object "SignalHouse$Instance"]
def gx_host : String := "SignalHouse"
def gx_T0 : u_T := fun k => match k with
  | 0 => ("SignalHouse", "reader", "LSignalHouse$Reader;", true)
  | 1 => ("SignalHouse", "ticker", "LSignalHouse$Ticker;", true)
  | 2 => ("SignalHouse", "seeker", "LSignalHouse$Seeker;", true)
  | 3 => ("SignalHouse", "programs", "[LSignalHouse$Program;", true)
  | 4 => ("SignalHouse", "instances", "[LSignalHouse$Instance;", true)
  | 5 => ("SignalHouse", "programCount", "I", false)
  | 6 => ("SignalHouse", "instanceCount", "I", false)
  | 7 => ("SignalHouse", "faultKind", "I", false)
  | _ => ("SignalHouse", "faultPlace", "I", false)
def gx_c0 : vw_C := ("SignalHouse", gx_T0, 9)
def gx_T1 : u_T := fun k => match k with
  | 0 => ("SignalHouse$Instance", "program", "LSignalHouse$Program;", true)
  | 1 => ("SignalHouse$Instance", "state", "I", false)
  | 2 => ("SignalHouse$Instance", "outputs", "I", false)
  | _ => ("SignalHouse$Instance", "ticksGone", "I", false)
def gx_c1 : vw_C := ("SignalHouse$Instance", gx_T1, 4)
def gx_T2 : u_T := fun k => match k with
  | 0 => ("SignalHouse$Node", "kind", "I", true)
  | 1 => ("SignalHouse$Node", "value", "I", true)
  | 2 => ("SignalHouse$Node", "first", "LSignalHouse$Node;", true)
  | 3 => ("SignalHouse$Node", "pauses", "I", true)
  | 4 => ("SignalHouse$Node", "atOnce", "I", true)
  | _ => ("SignalHouse$Node", "next", "LSignalHouse$Node;", false)
def gx_c2 : vw_C := ("SignalHouse$Node", gx_T2, 6)
def gx_T3 : u_T := fun k => match k with
  | 0 => ("SignalHouse$Program", "name", "I", true)
  | 1 => ("SignalHouse$Program", "inputs", "I", true)
  | 2 => ("SignalHouse$Program", "outputs", "I", true)
  | 3 => ("SignalHouse$Program", "body", "LSignalHouse$Node;", true)
  | _ => ("SignalHouse$Program", "pausePlaces", "[I", true)
def gx_c3 : vw_C := ("SignalHouse$Program", gx_T3, 5)
def gx_T4 : u_T := fun k => match k with
  | 0 => ("SignalHouse$Reader", "programs", "[LSignalHouse$Program;", true)
  | 1 => ("SignalHouse$Reader", "text", "[C", true)
  | 2 => ("SignalHouse$Reader", "faults", "[I", true)
  | 3 => ("SignalHouse$Reader", "signals", "[I", true)
  | 4 => ("SignalHouse$Reader", "traps", "[I", true)
  | 5 => ("SignalHouse$Reader", "pausePlaces", "[I", true)
  | 6 => ("SignalHouse$Reader", "length", "I", false)
  | 7 => ("SignalHouse$Reader", "end", "I", false)
  | 8 => ("SignalHouse$Reader", "place", "I", false)
  | 9 => ("SignalHouse$Reader", "names", "I", false)
  | 10 => ("SignalHouse$Reader", "signalCount", "I", false)
  | 11 => ("SignalHouse$Reader", "inputBits", "I", false)
  | 12 => ("SignalHouse$Reader", "told", "I", false)
  | 13 => ("SignalHouse$Reader", "depth", "I", false)
  | 14 => ("SignalHouse$Reader", "trapCount", "I", false)
  | 15 => ("SignalHouse$Reader", "localCount", "I", false)
  | _ => ("SignalHouse$Reader", "pauseCount", "I", false)
def gx_c4 : vw_C := ("SignalHouse$Reader", gx_T4, 17)
def gx_T5 : u_T := fun k => match k with
  | 0 => ("SignalHouse$Seeker", "ticker", "LSignalHouse$Ticker;", true)
  | 1 => ("SignalHouse$Seeker", "statesOfOne", "[I", true)
  | 2 => ("SignalHouse$Seeker", "statesOfTwo", "[I", true)
  | 3 => ("SignalHouse$Seeker", "cameFrom", "[I", true)
  | 4 => ("SignalHouse$Seeker", "cameBy", "[I", true)
  | 5 => ("SignalHouse$Seeker", "inputsOfRun", "[I", true)
  | 6 => ("SignalHouse$Seeker", "found", "I", false)
  | 7 => ("SignalHouse$Seeker", "ticksOfRun", "I", false)
  | 8 => ("SignalHouse$Seeker", "hasSought", "Z", false)
  | 9 => ("SignalHouse$Seeker", "one", "LSignalHouse$Program;", false)
  | 10 => ("SignalHouse$Seeker", "two", "LSignalHouse$Program;", false)
  | 11 => ("SignalHouse$Seeker", "output", "I", false)
  | 12 => ("SignalHouse$Seeker", "nextOfOne", "I", false)
  | _ => ("SignalHouse$Seeker", "nextOfTwo", "I", false)
def gx_c5 : vw_C := ("SignalHouse$Seeker", gx_T5, 14)
def gx_T6 : u_T := fun k => match k with
  | 0 => ("SignalHouse$Ticker", "state", "I", false)
  | 1 => ("SignalHouse$Ticker", "outputs", "I", false)
  | 2 => ("SignalHouse$Ticker", "stood", "I", false)
  | 3 => ("SignalHouse$Ticker", "there", "I", false)
  | 4 => ("SignalHouse$Ticker", "missing", "I", false)
  | 5 => ("SignalHouse$Ticker", "must", "I", false)
  | 6 => ("SignalHouse$Ticker", "can", "I", false)
  | 7 => ("SignalHouse$Ticker", "comeTo", "I", false)
  | _ => ("SignalHouse$Ticker", "localOpen", "Z", false)
def gx_c6 : vw_C := ("SignalHouse$Ticker", gx_T6, 9)
def gx_T7 : u_T := fun k => match k with
  | 0 => ("SignalHouseModel", "thrown", "I", false)
  | 1 => ("SignalHouseModel", "typed", "I", false)
  | 2 => ("SignalHouseModel", "tape", "[I", true)
  | 3 => ("SignalHouseModel", "size", "I", false)
  | 4 => ("SignalHouseModel", "text", "[I", true)
  | 5 => ("SignalHouseModel", "oldSize", "I", false)
  | 6 => ("SignalHouseModel", "old", "[I", true)
  | 7 => ("SignalHouseModel", "isThere", "Z", false)
  | 8 => ("SignalHouseModel", "faultKind", "I", false)
  | 9 => ("SignalHouseModel", "faultPlace", "I", false)
  | 10 => ("SignalHouseModel", "programs", "I", false)
  | 11 => ("SignalHouseModel", "name", "[I", true)
  | 12 => ("SignalHouseModel", "inputs", "[I", true)
  | 13 => ("SignalHouseModel", "inputOf", "[I", true)
  | 14 => ("SignalHouseModel", "outputs", "[I", true)
  | 15 => ("SignalHouseModel", "outputOf", "[I", true)
  | 16 => ("SignalHouseModel", "body", "[I", true)
  | 17 => ("SignalHouseModel", "pauses", "[I", true)
  | 18 => ("SignalHouseModel", "pausePlace", "[I", true)
  | 19 => ("SignalHouseModel", "parts", "I", false)
  | 20 => ("SignalHouseModel", "op", "[I", true)
  | 21 => ("SignalHouseModel", "letter", "[I", true)
  | 22 => ("SignalHouseModel", "number", "[I", true)
  | 23 => ("SignalHouseModel", "kid", "[I", true)
  | 24 => ("SignalHouseModel", "beside", "[I", true)
  | 25 => ("SignalHouseModel", "within", "[I", true)
  | 26 => ("SignalHouseModel", "once", "[I", true)
  | 27 => ("SignalHouseModel", "at", "I", false)
  | 28 => ("SignalHouseModel", "deep", "I", false)
  | 29 => ("SignalHouseModel", "locals", "I", false)
  | 30 => ("SignalHouseModel", "least", "[I", true)
  | 31 => ("SignalHouseModel", "told", "[I", true)
  | 32 => ("SignalHouseModel", "traps", "I", false)
  | 33 => ("SignalHouseModel", "trap", "[I", true)
  | 34 => ("SignalHouseModel", "part", "I", false)
  | 35 => ("SignalHouseModel", "value", "I", false)
  | 36 => ("SignalHouseModel", "wrongKind", "I", false)
  | 37 => ("SignalHouseModel", "wrongPlace", "I", false)
  | 38 => ("SignalHouseModel", "known", "[I", true)
  | 39 => ("SignalHouseModel", "standing", "I", false)
  | 40 => ("SignalHouseModel", "failed", "I", false)
  | 41 => ("SignalHouseModel", "stood", "I", false)
  | 42 => ("SignalHouseModel", "was", "I", false)
  | 43 => ("SignalHouseModel", "outs", "I", false)
  | 44 => ("SignalHouseModel", "instances", "I", false)
  | 45 => ("SignalHouseModel", "its", "[I", true)
  | 46 => ("SignalHouseModel", "state", "[I", true)
  | 47 => ("SignalHouseModel", "latest", "[I", true)
  | 48 => ("SignalHouseModel", "ticks", "[I", true)
  | 49 => ("SignalHouseModel", "firstPart", "[I", true)
  | 50 => ("SignalHouseModel", "isSought", "Z", false)
  | 51 => ("SignalHouseModel", "found", "I", false)
  | 52 => ("SignalHouseModel", "seen", "[I", true)
  | 53 => ("SignalHouseModel", "from", "[I", true)
  | 54 => ("SignalHouseModel", "by", "[I", true)
  | 55 => ("SignalHouseModel", "path", "I", false)
  | 56 => ("SignalHouseModel", "way", "[I", true)
  | 57 => ("SignalHouseModel", "leads", "Z", false)
  | 58 => ("SignalHouseModel", "nextOne", "I", false)
  | _ => ("SignalHouseModel", "nextTwo", "I", false)
def gx_c7 : vw_C := ("SignalHouseModel", gx_T7, 60)
def gx_cl : List vw_C := [gx_c0, gx_c1, gx_c2, gx_c3, gx_c4, gx_c5, gx_c6, gx_c7]
def gx_tyf (q : vw_C) (k : Nat) : FieldType := (parseFieldDescriptor (q.2.1 k).2.2.1).getD .int
def gx_hs (s : String) : Nat := s.toList.foldl (fun a c => a * 131 + c.toNat) 7
def gx_cok (q : vw_C) : Prop := (∀ w ∈ u_ws q.1 q.2.1 q.2.2, w ∈ gx_Ts) ∧ (∀ k, k < q.2.2 → parseFieldDescriptor (q.2.1 k).2.2.1 = some (gx_tyf q k)) ∧ ∀ a, a < q.2.2 → ∀ b, b < q.2.2 → a ≠ b → (q.2.1 a).2.1 ≠ (q.2.1 b).2.1
theorem gx_nmd {f : Nat → String} {N : Nat} (L : List Nat) (h1 : (List.range N).all (fun k => Nat.beq (gx_hs (f k)) (L.getD k 0)) = true) (h2 : (List.range N).all (fun a => (List.range N).all (fun b => Nat.beq a b || !Nat.beq (L.getD a 0) (L.getD b 0))) = true) : ∀ a, a < N → ∀ b, b < N → a ≠ b → f a ≠ f b := by
  intro a ha b hb hab h
  have e1 := Nat.eq_of_beq_eq_true (List.all_eq_true.mp h1 a (List.mem_range.mpr ha))
  have e2 := Nat.eq_of_beq_eq_true (List.all_eq_true.mp h1 b (List.mem_range.mpr hb))
  have e3 := List.all_eq_true.mp (List.all_eq_true.mp h2 a (List.mem_range.mpr ha)) b (List.mem_range.mpr hb)
  rw [← e1, ← e2, h] at e3
  simp only [Bool.or_eq_true, Bool.not_eq_true', Nat.beq_refl] at e3
  rcases e3 with e3 | e3
  · exact hab (Nat.eq_of_beq_eq_true e3)
  · cases e3
theorem pf_0_0 : parseFieldDescriptor (gx_c0.2.1 0).2.2.1 = some (.object "SignalHouse$Reader") := by decide +kernel
theorem pf_0_1 : parseFieldDescriptor (gx_c0.2.1 1).2.2.1 = some (.object "SignalHouse$Ticker") := by decide +kernel
theorem pf_0_2 : parseFieldDescriptor (gx_c0.2.1 2).2.2.1 = some (.object "SignalHouse$Seeker") := by decide +kernel
theorem pf_0_3 : parseFieldDescriptor (gx_c0.2.1 3).2.2.1 = some (.array (.object "SignalHouse$Program")) := by decide +kernel
theorem pf_0_4 : parseFieldDescriptor (gx_c0.2.1 4).2.2.1 = some (.array (.object "SignalHouse$Instance")) := by decide +kernel
theorem pf_0_5 : parseFieldDescriptor (gx_c0.2.1 5).2.2.1 = some .int := by decide +kernel
theorem pf_0_6 : parseFieldDescriptor (gx_c0.2.1 6).2.2.1 = some .int := by decide +kernel
theorem pf_0_7 : parseFieldDescriptor (gx_c0.2.1 7).2.2.1 = some .int := by decide +kernel
theorem pf_0_8 : parseFieldDescriptor (gx_c0.2.1 8).2.2.1 = some .int := by decide +kernel
def gx_kd0 : List Nat := [2, 2, 2, 2, 2, 0, 0, 0, 0]
theorem gx_uw0 : ∀ w ∈ u_ws gx_c0.1 gx_c0.2.1 gx_c0.2.2, w ∈ gx_Ts := by
  intro w hw
  obtain ⟨k, hk, rfl⟩ := List.mem_map.mp hw
  have hk := List.mem_range.mp hk
  match k, hk with
  | 0, _ => exact wt_254
  | 1, _ => exact wt_255
  | 2, _ => exact wt_256
  | 3, _ => exact wt_257
  | 4, _ => exact wt_258
  | 5, _ => exact wt_259
  | 6, _ => exact wt_260
  | 7, _ => exact wt_261
  | 8, _ => exact wt_262
  | k + 9, hk => exact absurd hk (Nat.not_lt.mpr (Nat.le_add_left _ _))
theorem gx_ok0 : gx_cok gx_c0 := by
  refine ⟨gx_uw0, fun k hk => ?_, gx_nmd [39805418116474, 39883759711769, 39844006718616, 681842896949187062, 88711680537781353975, 200802679285946716888786358, 26125582910153846247026100231, 88442892917996915507, 11586018972259074952172] (by decide +kernel) (by decide +kernel)⟩
  match k, hk with
  | 0, _ => exact (show parseFieldDescriptor _ = some ((parseFieldDescriptor _).getD .int) by rw [pf_0_0]; rfl)
  | 1, _ => exact (show parseFieldDescriptor _ = some ((parseFieldDescriptor _).getD .int) by rw [pf_0_1]; rfl)
  | 2, _ => exact (show parseFieldDescriptor _ = some ((parseFieldDescriptor _).getD .int) by rw [pf_0_2]; rfl)
  | 3, _ => exact (show parseFieldDescriptor _ = some ((parseFieldDescriptor _).getD .int) by rw [pf_0_3]; rfl)
  | 4, _ => exact (show parseFieldDescriptor _ = some ((parseFieldDescriptor _).getD .int) by rw [pf_0_4]; rfl)
  | 5, _ => exact (show parseFieldDescriptor _ = some ((parseFieldDescriptor _).getD .int) by rw [pf_0_5]; rfl)
  | 6, _ => exact (show parseFieldDescriptor _ = some ((parseFieldDescriptor _).getD .int) by rw [pf_0_6]; rfl)
  | 7, _ => exact (show parseFieldDescriptor _ = some ((parseFieldDescriptor _).getD .int) by rw [pf_0_7]; rfl)
  | 8, _ => exact (show parseFieldDescriptor _ = some ((parseFieldDescriptor _).getD .int) by rw [pf_0_8]; rfl)
  | k + 9, hk => exact absurd hk (Nat.not_lt.mpr (Nat.le_add_left _ _))
theorem gx_kk0 : ∀ k, k < gx_c0.2.2 → gx_kd0[k]? = some (match gx_tyf gx_c0 k with
  | .int => 0
  | .boolean => 1
  | .object _ => 2
  | .array _ => 2
  | .long => 3
  | _ => 9) := by
  intro k hk
  match k, hk with
  | 0, _ => unfold gx_tyf; rw [pf_0_0]; rfl
  | 1, _ => unfold gx_tyf; rw [pf_0_1]; rfl
  | 2, _ => unfold gx_tyf; rw [pf_0_2]; rfl
  | 3, _ => unfold gx_tyf; rw [pf_0_3]; rfl
  | 4, _ => unfold gx_tyf; rw [pf_0_4]; rfl
  | 5, _ => unfold gx_tyf; rw [pf_0_5]; rfl
  | 6, _ => unfold gx_tyf; rw [pf_0_6]; rfl
  | 7, _ => unfold gx_tyf; rw [pf_0_7]; rfl
  | 8, _ => unfold gx_tyf; rw [pf_0_8]; rfl
  | k + 9, hk => exact absurd hk (Nat.not_lt.mpr (Nat.le_add_left _ _))
theorem pf_1_0 : parseFieldDescriptor (gx_c1.2.1 0).2.2.1 = some (.object "SignalHouse$Program") := by decide +kernel
theorem pf_1_1 : parseFieldDescriptor (gx_c1.2.1 1).2.2.1 = some .int := by decide +kernel
theorem pf_1_2 : parseFieldDescriptor (gx_c1.2.1 2).2.2.1 = some .int := by decide +kernel
theorem pf_1_3 : parseFieldDescriptor (gx_c1.2.1 3).2.2.1 = some .int := by decide +kernel
def gx_kd1 : List Nat := [2, 0, 0, 0]
theorem gx_uw1 : ∀ w ∈ u_ws gx_c1.1 gx_c1.2.1 gx_c1.2.2, w ∈ gx_Ts := by
  intro w hw
  obtain ⟨k, hk, rfl⟩ := List.mem_map.mp hw
  have hk := List.mem_range.mp hk
  match k, hk with
  | 0, _ => exact wt_314
  | 1, _ => exact wt_315
  | 2, _ => exact wt_316
  | 3, _ => exact wt_317
  | k + 4, hk => exact absurd hk (Nat.not_lt.mpr (Nat.le_add_left _ _))
theorem gx_ok1 : gx_cok gx_c1 := by
  refine ⟨gx_uw1, fun k hk => ?_, gx_nmd [5204907610299137, 304186376942, 5199970928410211, 89662321258218733342] (by decide +kernel) (by decide +kernel)⟩
  match k, hk with
  | 0, _ => exact (show parseFieldDescriptor _ = some ((parseFieldDescriptor _).getD .int) by rw [pf_1_0]; rfl)
  | 1, _ => exact (show parseFieldDescriptor _ = some ((parseFieldDescriptor _).getD .int) by rw [pf_1_1]; rfl)
  | 2, _ => exact (show parseFieldDescriptor _ = some ((parseFieldDescriptor _).getD .int) by rw [pf_1_2]; rfl)
  | 3, _ => exact (show parseFieldDescriptor _ = some ((parseFieldDescriptor _).getD .int) by rw [pf_1_3]; rfl)
  | k + 4, hk => exact absurd hk (Nat.not_lt.mpr (Nat.le_add_left _ _))
theorem gx_kk1 : ∀ k, k < gx_c1.2.2 → gx_kd1[k]? = some (match gx_tyf gx_c1 k with
  | .int => 0
  | .boolean => 1
  | .object _ => 2
  | .array _ => 2
  | .long => 3
  | _ => 9) := by
  intro k hk
  match k, hk with
  | 0, _ => unfold gx_tyf; rw [pf_1_0]; rfl
  | 1, _ => unfold gx_tyf; rw [pf_1_1]; rfl
  | 2, _ => unfold gx_tyf; rw [pf_1_2]; rfl
  | 3, _ => unfold gx_tyf; rw [pf_1_3]; rfl
  | k + 4, hk => exact absurd hk (Nat.not_lt.mpr (Nat.le_add_left _ _))
theorem pf_2_0 : parseFieldDescriptor (gx_c2.2.1 0).2.2.1 = some .int := by decide +kernel
theorem pf_2_1 : parseFieldDescriptor (gx_c2.2.1 1).2.2.1 = some .int := by decide +kernel
theorem pf_2_2 : parseFieldDescriptor (gx_c2.2.1 2).2.2.1 = some (.object "SignalHouse$Node") := by decide +kernel
theorem pf_2_3 : parseFieldDescriptor (gx_c2.2.1 3).2.2.1 = some .int := by decide +kernel
theorem pf_2_4 : parseFieldDescriptor (gx_c2.2.1 4).2.2.1 = some .int := by decide +kernel
theorem pf_2_5 : parseFieldDescriptor (gx_c2.2.1 5).2.2.1 = some (.object "SignalHouse$Node") := by decide +kernel
def gx_kd2 : List Nat := [0, 0, 2, 0, 0, 2]
theorem gx_uw2 : ∀ w ∈ u_ws gx_c2.1 gx_c2.2.1 gx_c2.2.2, w ∈ gx_Ts := by
  intro w hw
  obtain ⟨k, hk, rfl⟩ := List.mem_map.mp hw
  have hk := List.mem_range.mp hk
  match k, hk with
  | 0, _ => exact wt_601
  | 1, _ => exact wt_602
  | 2, _ => exact wt_603
  | 3, _ => exact wt_604
  | 4, _ => exact wt_605
  | 5, _ => exact wt_606
  | k + 6, hk => exact absurd hk (Nat.not_lt.mpr (Nat.le_add_left _ _))
theorem gx_ok2 : gx_cok gx_c2 := by
  refine ⟨gx_uw2, fun k hk => ?_, gx_nmd [2303861599, 305027351878, 300333440589, 39727126356724, 39153943996919, 2310538554] (by decide +kernel) (by decide +kernel)⟩
  match k, hk with
  | 0, _ => exact (show parseFieldDescriptor _ = some ((parseFieldDescriptor _).getD .int) by rw [pf_2_0]; rfl)
  | 1, _ => exact (show parseFieldDescriptor _ = some ((parseFieldDescriptor _).getD .int) by rw [pf_2_1]; rfl)
  | 2, _ => exact (show parseFieldDescriptor _ = some ((parseFieldDescriptor _).getD .int) by rw [pf_2_2]; rfl)
  | 3, _ => exact (show parseFieldDescriptor _ = some ((parseFieldDescriptor _).getD .int) by rw [pf_2_3]; rfl)
  | 4, _ => exact (show parseFieldDescriptor _ = some ((parseFieldDescriptor _).getD .int) by rw [pf_2_4]; rfl)
  | 5, _ => exact (show parseFieldDescriptor _ = some ((parseFieldDescriptor _).getD .int) by rw [pf_2_5]; rfl)
  | k + 6, hk => exact absurd hk (Nat.not_lt.mpr (Nat.le_add_left _ _))
theorem gx_kk2 : ∀ k, k < gx_c2.2.2 → gx_kd2[k]? = some (match gx_tyf gx_c2 k with
  | .int => 0
  | .boolean => 1
  | .object _ => 2
  | .array _ => 2
  | .long => 3
  | _ => 9) := by
  intro k hk
  match k, hk with
  | 0, _ => unfold gx_tyf; rw [pf_2_0]; rfl
  | 1, _ => unfold gx_tyf; rw [pf_2_1]; rfl
  | 2, _ => unfold gx_tyf; rw [pf_2_2]; rfl
  | 3, _ => unfold gx_tyf; rw [pf_2_3]; rfl
  | 4, _ => unfold gx_tyf; rw [pf_2_4]; rfl
  | 5, _ => unfold gx_tyf; rw [pf_2_5]; rfl
  | k + 6, hk => exact absurd hk (Nat.not_lt.mpr (Nat.le_add_left _ _))
theorem pf_3_0 : parseFieldDescriptor (gx_c3.2.1 0).2.2.1 = some .int := by decide +kernel
theorem pf_3_1 : parseFieldDescriptor (gx_c3.2.1 1).2.2.1 = some .int := by decide +kernel
theorem pf_3_2 : parseFieldDescriptor (gx_c3.2.1 2).2.2.1 = some .int := by decide +kernel
theorem pf_3_3 : parseFieldDescriptor (gx_c3.2.1 3).2.2.1 = some (.object "SignalHouse$Node") := by decide +kernel
theorem pf_3_4 : parseFieldDescriptor (gx_c3.2.1 4).2.2.1 = some (.array .int) := by decide +kernel
def gx_kd3 : List Nat := [0, 0, 0, 2, 2]
theorem gx_uw3 : ∀ w ∈ u_ws gx_c3.1 gx_c3.2.1 gx_c3.2.2, w ∈ gx_Ts := by
  intro w hw
  obtain ⟨k, hk, rfl⟩ := List.mem_map.mp hw
  have hk := List.mem_range.mp hk
  match k, hk with
  | 0, _ => exact wt_685
  | 1, _ => exact wt_686
  | 2, _ => exact wt_687
  | 3, _ => exact wt_688
  | 4, _ => exact wt_689
  | k + 5, hk => exact absurd hk (Nat.not_lt.mpr (Nat.le_add_left _ _))
theorem gx_ok3 : gx_cok gx_c3 := by
  refine ⟨gx_uw3, fun k hk => ?_, gx_nmd [2310468454, 39460887223972, 5199970928410211, 2283730457, 1532652260141884635894119] (by decide +kernel) (by decide +kernel)⟩
  match k, hk with
  | 0, _ => exact (show parseFieldDescriptor _ = some ((parseFieldDescriptor _).getD .int) by rw [pf_3_0]; rfl)
  | 1, _ => exact (show parseFieldDescriptor _ = some ((parseFieldDescriptor _).getD .int) by rw [pf_3_1]; rfl)
  | 2, _ => exact (show parseFieldDescriptor _ = some ((parseFieldDescriptor _).getD .int) by rw [pf_3_2]; rfl)
  | 3, _ => exact (show parseFieldDescriptor _ = some ((parseFieldDescriptor _).getD .int) by rw [pf_3_3]; rfl)
  | 4, _ => exact (show parseFieldDescriptor _ = some ((parseFieldDescriptor _).getD .int) by rw [pf_3_4]; rfl)
  | k + 5, hk => exact absurd hk (Nat.not_lt.mpr (Nat.le_add_left _ _))
theorem gx_kk3 : ∀ k, k < gx_c3.2.2 → gx_kd3[k]? = some (match gx_tyf gx_c3 k with
  | .int => 0
  | .boolean => 1
  | .object _ => 2
  | .array _ => 2
  | .long => 3
  | _ => 9) := by
  intro k hk
  match k, hk with
  | 0, _ => unfold gx_tyf; rw [pf_3_0]; rfl
  | 1, _ => unfold gx_tyf; rw [pf_3_1]; rfl
  | 2, _ => unfold gx_tyf; rw [pf_3_2]; rfl
  | 3, _ => unfold gx_tyf; rw [pf_3_3]; rfl
  | 4, _ => unfold gx_tyf; rw [pf_3_4]; rfl
  | k + 5, hk => exact absurd hk (Nat.not_lt.mpr (Nat.le_add_left _ _))
theorem pf_4_0 : parseFieldDescriptor (gx_c4.2.1 0).2.2.1 = some (.array (.object "SignalHouse$Program")) := by decide +kernel
theorem pf_4_1 : parseFieldDescriptor (gx_c4.2.1 1).2.2.1 = some (.array .char) := by decide +kernel
theorem pf_4_2 : parseFieldDescriptor (gx_c4.2.1 2).2.2.1 = some (.array .int) := by decide +kernel
theorem pf_4_3 : parseFieldDescriptor (gx_c4.2.1 3).2.2.1 = some (.array .int) := by decide +kernel
theorem pf_4_4 : parseFieldDescriptor (gx_c4.2.1 4).2.2.1 = some (.array .int) := by decide +kernel
theorem pf_4_5 : parseFieldDescriptor (gx_c4.2.1 5).2.2.1 = some (.array .int) := by decide +kernel
theorem pf_4_6 : parseFieldDescriptor (gx_c4.2.1 6).2.2.1 = some .int := by decide +kernel
theorem pf_4_7 : parseFieldDescriptor (gx_c4.2.1 7).2.2.1 = some .int := by decide +kernel
theorem pf_4_8 : parseFieldDescriptor (gx_c4.2.1 8).2.2.1 = some .int := by decide +kernel
theorem pf_4_9 : parseFieldDescriptor (gx_c4.2.1 9).2.2.1 = some .int := by decide +kernel
theorem pf_4_10 : parseFieldDescriptor (gx_c4.2.1 10).2.2.1 = some .int := by decide +kernel
theorem pf_4_11 : parseFieldDescriptor (gx_c4.2.1 11).2.2.1 = some .int := by decide +kernel
theorem pf_4_12 : parseFieldDescriptor (gx_c4.2.1 12).2.2.1 = some .int := by decide +kernel
theorem pf_4_13 : parseFieldDescriptor (gx_c4.2.1 13).2.2.1 = some .int := by decide +kernel
theorem pf_4_14 : parseFieldDescriptor (gx_c4.2.1 14).2.2.1 = some .int := by decide +kernel
theorem pf_4_15 : parseFieldDescriptor (gx_c4.2.1 15).2.2.1 = some .int := by decide +kernel
theorem pf_4_16 : parseFieldDescriptor (gx_c4.2.1 16).2.2.1 = some .int := by decide +kernel
def gx_kd4 : List Nat := [2, 2, 2, 2, 2, 2, 0, 0, 0, 0, 0, 0, 0, 0, 0, 0, 0]
theorem gx_uw4 : ∀ w ∈ u_ws gx_c4.1 gx_c4.2.1 gx_c4.2.2, w ∈ gx_Ts := by
  intro w hw
  obtain ⟨k, hk, rfl⟩ := List.mem_map.mp hw
  have hk := List.mem_range.mp hk
  match k, hk with
  | 0, _ => exact wt_163
  | 1, _ => exact wt_164
  | 2, _ => exact wt_165
  | 3, _ => exact wt_166
  | 4, _ => exact wt_167
  | 5, _ => exact wt_168
  | 6, _ => exact wt_169
  | 7, _ => exact wt_170
  | 8, _ => exact wt_171
  | 9, _ => exact wt_172
  | 10, _ => exact wt_173
  | 11, _ => exact wt_174
  | 12, _ => exact wt_175
  | 13, _ => exact wt_176
  | 14, _ => exact wt_177
  | 15, _ => exact wt_178
  | 16, _ => exact wt_179
  | k + 17, hk => exact absurd hk (Nat.not_lt.mpr (Nat.le_add_left _ _))
theorem gx_ok4 : gx_cok gx_c4 := by
  refine ⟨gx_uw4, fun k hk => ?_, gx_nmd [681842896949187062, 2324027100, 39341331342052, 5219719793772100, 304476380171, 1532652260141884635894119, 39573970457189, 17484408, 303284890224, 302671367589, 1537207066908005857568356, 88711665420118098209, 2324197122, 299735414180, 89668269892841030747, 11655391162001583816051, 11699635573598351383060] (by decide +kernel) (by decide +kernel)⟩
  match k, hk with
  | 0, _ => exact (show parseFieldDescriptor _ = some ((parseFieldDescriptor _).getD .int) by rw [pf_4_0]; rfl)
  | 1, _ => exact (show parseFieldDescriptor _ = some ((parseFieldDescriptor _).getD .int) by rw [pf_4_1]; rfl)
  | 2, _ => exact (show parseFieldDescriptor _ = some ((parseFieldDescriptor _).getD .int) by rw [pf_4_2]; rfl)
  | 3, _ => exact (show parseFieldDescriptor _ = some ((parseFieldDescriptor _).getD .int) by rw [pf_4_3]; rfl)
  | 4, _ => exact (show parseFieldDescriptor _ = some ((parseFieldDescriptor _).getD .int) by rw [pf_4_4]; rfl)
  | 5, _ => exact (show parseFieldDescriptor _ = some ((parseFieldDescriptor _).getD .int) by rw [pf_4_5]; rfl)
  | 6, _ => exact (show parseFieldDescriptor _ = some ((parseFieldDescriptor _).getD .int) by rw [pf_4_6]; rfl)
  | 7, _ => exact (show parseFieldDescriptor _ = some ((parseFieldDescriptor _).getD .int) by rw [pf_4_7]; rfl)
  | 8, _ => exact (show parseFieldDescriptor _ = some ((parseFieldDescriptor _).getD .int) by rw [pf_4_8]; rfl)
  | 9, _ => exact (show parseFieldDescriptor _ = some ((parseFieldDescriptor _).getD .int) by rw [pf_4_9]; rfl)
  | 10, _ => exact (show parseFieldDescriptor _ = some ((parseFieldDescriptor _).getD .int) by rw [pf_4_10]; rfl)
  | 11, _ => exact (show parseFieldDescriptor _ = some ((parseFieldDescriptor _).getD .int) by rw [pf_4_11]; rfl)
  | 12, _ => exact (show parseFieldDescriptor _ = some ((parseFieldDescriptor _).getD .int) by rw [pf_4_12]; rfl)
  | 13, _ => exact (show parseFieldDescriptor _ = some ((parseFieldDescriptor _).getD .int) by rw [pf_4_13]; rfl)
  | 14, _ => exact (show parseFieldDescriptor _ = some ((parseFieldDescriptor _).getD .int) by rw [pf_4_14]; rfl)
  | 15, _ => exact (show parseFieldDescriptor _ = some ((parseFieldDescriptor _).getD .int) by rw [pf_4_15]; rfl)
  | 16, _ => exact (show parseFieldDescriptor _ = some ((parseFieldDescriptor _).getD .int) by rw [pf_4_16]; rfl)
  | k + 17, hk => exact absurd hk (Nat.not_lt.mpr (Nat.le_add_left _ _))
theorem gx_kk4 : ∀ k, k < gx_c4.2.2 → gx_kd4[k]? = some (match gx_tyf gx_c4 k with
  | .int => 0
  | .boolean => 1
  | .object _ => 2
  | .array _ => 2
  | .long => 3
  | _ => 9) := by
  intro k hk
  match k, hk with
  | 0, _ => unfold gx_tyf; rw [pf_4_0]; rfl
  | 1, _ => unfold gx_tyf; rw [pf_4_1]; rfl
  | 2, _ => unfold gx_tyf; rw [pf_4_2]; rfl
  | 3, _ => unfold gx_tyf; rw [pf_4_3]; rfl
  | 4, _ => unfold gx_tyf; rw [pf_4_4]; rfl
  | 5, _ => unfold gx_tyf; rw [pf_4_5]; rfl
  | 6, _ => unfold gx_tyf; rw [pf_4_6]; rfl
  | 7, _ => unfold gx_tyf; rw [pf_4_7]; rfl
  | 8, _ => unfold gx_tyf; rw [pf_4_8]; rfl
  | 9, _ => unfold gx_tyf; rw [pf_4_9]; rfl
  | 10, _ => unfold gx_tyf; rw [pf_4_10]; rfl
  | 11, _ => unfold gx_tyf; rw [pf_4_11]; rfl
  | 12, _ => unfold gx_tyf; rw [pf_4_12]; rfl
  | 13, _ => unfold gx_tyf; rw [pf_4_13]; rfl
  | 14, _ => unfold gx_tyf; rw [pf_4_14]; rfl
  | 15, _ => unfold gx_tyf; rw [pf_4_15]; rfl
  | 16, _ => unfold gx_tyf; rw [pf_4_16]; rfl
  | k + 17, hk => exact absurd hk (Nat.not_lt.mpr (Nat.le_add_left _ _))
theorem pf_5_0 : parseFieldDescriptor (gx_c5.2.1 0).2.2.1 = some (.object "SignalHouse$Ticker") := by decide +kernel
theorem pf_5_1 : parseFieldDescriptor (gx_c5.2.1 1).2.2.1 = some (.array .int) := by decide +kernel
theorem pf_5_2 : parseFieldDescriptor (gx_c5.2.1 2).2.2.1 = some (.array .int) := by decide +kernel
theorem pf_5_3 : parseFieldDescriptor (gx_c5.2.1 3).2.2.1 = some (.array .int) := by decide +kernel
theorem pf_5_4 : parseFieldDescriptor (gx_c5.2.1 4).2.2.1 = some (.array .int) := by decide +kernel
theorem pf_5_5 : parseFieldDescriptor (gx_c5.2.1 5).2.2.1 = some (.array .int) := by decide +kernel
theorem pf_5_6 : parseFieldDescriptor (gx_c5.2.1 6).2.2.1 = some .int := by decide +kernel
theorem pf_5_7 : parseFieldDescriptor (gx_c5.2.1 7).2.2.1 = some .int := by decide +kernel
theorem pf_5_8 : parseFieldDescriptor (gx_c5.2.1 8).2.2.1 = some .boolean := by decide +kernel
theorem pf_5_9 : parseFieldDescriptor (gx_c5.2.1 9).2.2.1 = some (.object "SignalHouse$Program") := by decide +kernel
theorem pf_5_10 : parseFieldDescriptor (gx_c5.2.1 10).2.2.1 = some (.object "SignalHouse$Program") := by decide +kernel
theorem pf_5_11 : parseFieldDescriptor (gx_c5.2.1 11).2.2.1 = some .int := by decide +kernel
theorem pf_5_12 : parseFieldDescriptor (gx_c5.2.1 12).2.2.1 = some .int := by decide +kernel
theorem pf_5_13 : parseFieldDescriptor (gx_c5.2.1 13).2.2.1 = some .int := by decide +kernel
def gx_kd5 : List Nat := [2, 2, 2, 2, 2, 2, 0, 0, 1, 2, 2, 0, 0, 0]
theorem gx_uw5 : ∀ w ∈ u_ws gx_c5.1 gx_c5.2.1 gx_c5.2.2, w ∈ gx_Ts := by
  intro w hw
  obtain ⟨k, hk, rfl⟩ := List.mem_map.mp hw
  have hk := List.mem_range.mp hk
  match k, hk with
  | 0, _ => exact wt_229
  | 1, _ => exact wt_230
  | 2, _ => exact wt_231
  | 3, _ => exact wt_232
  | 4, _ => exact wt_233
  | 5, _ => exact wt_234
  | 6, _ => exact wt_235
  | 7, _ => exact wt_236
  | 8, _ => exact wt_237
  | 9, _ => exact wt_238
  | 10, _ => exact wt_239
  | 11, _ => exact wt_240
  | 12, _ => exact wt_241
  | 13, _ => exact wt_242
  | k + 14, hk => exact absurd hk (Nat.not_lt.mpr (Nat.le_add_left _ _))
theorem gx_ok5 : gx_cok gx_c5 := by
  refine ⟨gx_uw5, fun k hk => ?_, gx_nmd [39883759711769, 1537331528742848835047838, 1537331528742848835134832, 673150088494420587, 39225574761700, 1522380890276529389335452, 300346979947, 11745764084828989356049, 88616342251243283277, 17656019, 17743013, 39694434568016, 89139398255775673925, 89139398255775760919] (by decide +kernel) (by decide +kernel)⟩
  match k, hk with
  | 0, _ => exact (show parseFieldDescriptor _ = some ((parseFieldDescriptor _).getD .int) by rw [pf_5_0]; rfl)
  | 1, _ => exact (show parseFieldDescriptor _ = some ((parseFieldDescriptor _).getD .int) by rw [pf_5_1]; rfl)
  | 2, _ => exact (show parseFieldDescriptor _ = some ((parseFieldDescriptor _).getD .int) by rw [pf_5_2]; rfl)
  | 3, _ => exact (show parseFieldDescriptor _ = some ((parseFieldDescriptor _).getD .int) by rw [pf_5_3]; rfl)
  | 4, _ => exact (show parseFieldDescriptor _ = some ((parseFieldDescriptor _).getD .int) by rw [pf_5_4]; rfl)
  | 5, _ => exact (show parseFieldDescriptor _ = some ((parseFieldDescriptor _).getD .int) by rw [pf_5_5]; rfl)
  | 6, _ => exact (show parseFieldDescriptor _ = some ((parseFieldDescriptor _).getD .int) by rw [pf_5_6]; rfl)
  | 7, _ => exact (show parseFieldDescriptor _ = some ((parseFieldDescriptor _).getD .int) by rw [pf_5_7]; rfl)
  | 8, _ => exact (show parseFieldDescriptor _ = some ((parseFieldDescriptor _).getD .int) by rw [pf_5_8]; rfl)
  | 9, _ => exact (show parseFieldDescriptor _ = some ((parseFieldDescriptor _).getD .int) by rw [pf_5_9]; rfl)
  | 10, _ => exact (show parseFieldDescriptor _ = some ((parseFieldDescriptor _).getD .int) by rw [pf_5_10]; rfl)
  | 11, _ => exact (show parseFieldDescriptor _ = some ((parseFieldDescriptor _).getD .int) by rw [pf_5_11]; rfl)
  | 12, _ => exact (show parseFieldDescriptor _ = some ((parseFieldDescriptor _).getD .int) by rw [pf_5_12]; rfl)
  | 13, _ => exact (show parseFieldDescriptor _ = some ((parseFieldDescriptor _).getD .int) by rw [pf_5_13]; rfl)
  | k + 14, hk => exact absurd hk (Nat.not_lt.mpr (Nat.le_add_left _ _))
theorem gx_kk5 : ∀ k, k < gx_c5.2.2 → gx_kd5[k]? = some (match gx_tyf gx_c5 k with
  | .int => 0
  | .boolean => 1
  | .object _ => 2
  | .array _ => 2
  | .long => 3
  | _ => 9) := by
  intro k hk
  match k, hk with
  | 0, _ => unfold gx_tyf; rw [pf_5_0]; rfl
  | 1, _ => unfold gx_tyf; rw [pf_5_1]; rfl
  | 2, _ => unfold gx_tyf; rw [pf_5_2]; rfl
  | 3, _ => unfold gx_tyf; rw [pf_5_3]; rfl
  | 4, _ => unfold gx_tyf; rw [pf_5_4]; rfl
  | 5, _ => unfold gx_tyf; rw [pf_5_5]; rfl
  | 6, _ => unfold gx_tyf; rw [pf_5_6]; rfl
  | 7, _ => unfold gx_tyf; rw [pf_5_7]; rfl
  | 8, _ => unfold gx_tyf; rw [pf_5_8]; rfl
  | 9, _ => unfold gx_tyf; rw [pf_5_9]; rfl
  | 10, _ => unfold gx_tyf; rw [pf_5_10]; rfl
  | 11, _ => unfold gx_tyf; rw [pf_5_11]; rfl
  | 12, _ => unfold gx_tyf; rw [pf_5_12]; rfl
  | 13, _ => unfold gx_tyf; rw [pf_5_13]; rfl
  | k + 14, hk => exact absurd hk (Nat.not_lt.mpr (Nat.le_add_left _ _))
theorem pf_6_0 : parseFieldDescriptor (gx_c6.2.1 0).2.2.1 = some .int := by decide +kernel
theorem pf_6_1 : parseFieldDescriptor (gx_c6.2.1 1).2.2.1 = some .int := by decide +kernel
theorem pf_6_2 : parseFieldDescriptor (gx_c6.2.1 2).2.2.1 = some .int := by decide +kernel
theorem pf_6_3 : parseFieldDescriptor (gx_c6.2.1 3).2.2.1 = some .int := by decide +kernel
theorem pf_6_4 : parseFieldDescriptor (gx_c6.2.1 4).2.2.1 = some .int := by decide +kernel
theorem pf_6_5 : parseFieldDescriptor (gx_c6.2.1 5).2.2.1 = some .int := by decide +kernel
theorem pf_6_6 : parseFieldDescriptor (gx_c6.2.1 6).2.2.1 = some .int := by decide +kernel
theorem pf_6_7 : parseFieldDescriptor (gx_c6.2.1 7).2.2.1 = some .int := by decide +kernel
theorem pf_6_8 : parseFieldDescriptor (gx_c6.2.1 8).2.2.1 = some .boolean := by decide +kernel
def gx_kd6 : List Nat := [0, 0, 0, 0, 0, 0, 0, 0, 1]
theorem gx_uw6 : ∀ w ∈ u_ws gx_c6.1 gx_c6.2.1 gx_c6.2.2, w ∈ gx_Ts := by
  intro w hw
  obtain ⟨k, hk, rfl⟩ := List.mem_map.mp hw
  have hk := List.mem_range.mp hk
  match k, hk with
  | 0, _ => exact wt_200
  | 1, _ => exact wt_201
  | 2, _ => exact wt_202
  | 3, _ => exact wt_203
  | 4, _ => exact wt_204
  | 5, _ => exact wt_205
  | 6, _ => exact wt_206
  | 7, _ => exact wt_207
  | 8, _ => exact wt_208
  | k + 9, hk => exact absurd hk (Nat.not_lt.mpr (Nat.le_add_left _ _))
theorem gx_ok6 : gx_cok gx_c6 := by
  refine ⟨gx_uw6, fun k hk => ?_, gx_nmd [304186376942, 5199970928410211, 304186616540, 304453968153, 5189399860283459, 2308564384, 17448393, 39229697762942, 88972451618359693042] (by decide +kernel) (by decide +kernel)⟩
  match k, hk with
  | 0, _ => exact (show parseFieldDescriptor _ = some ((parseFieldDescriptor _).getD .int) by rw [pf_6_0]; rfl)
  | 1, _ => exact (show parseFieldDescriptor _ = some ((parseFieldDescriptor _).getD .int) by rw [pf_6_1]; rfl)
  | 2, _ => exact (show parseFieldDescriptor _ = some ((parseFieldDescriptor _).getD .int) by rw [pf_6_2]; rfl)
  | 3, _ => exact (show parseFieldDescriptor _ = some ((parseFieldDescriptor _).getD .int) by rw [pf_6_3]; rfl)
  | 4, _ => exact (show parseFieldDescriptor _ = some ((parseFieldDescriptor _).getD .int) by rw [pf_6_4]; rfl)
  | 5, _ => exact (show parseFieldDescriptor _ = some ((parseFieldDescriptor _).getD .int) by rw [pf_6_5]; rfl)
  | 6, _ => exact (show parseFieldDescriptor _ = some ((parseFieldDescriptor _).getD .int) by rw [pf_6_6]; rfl)
  | 7, _ => exact (show parseFieldDescriptor _ = some ((parseFieldDescriptor _).getD .int) by rw [pf_6_7]; rfl)
  | 8, _ => exact (show parseFieldDescriptor _ = some ((parseFieldDescriptor _).getD .int) by rw [pf_6_8]; rfl)
  | k + 9, hk => exact absurd hk (Nat.not_lt.mpr (Nat.le_add_left _ _))
theorem gx_kk6 : ∀ k, k < gx_c6.2.2 → gx_kd6[k]? = some (match gx_tyf gx_c6 k with
  | .int => 0
  | .boolean => 1
  | .object _ => 2
  | .array _ => 2
  | .long => 3
  | _ => 9) := by
  intro k hk
  match k, hk with
  | 0, _ => unfold gx_tyf; rw [pf_6_0]; rfl
  | 1, _ => unfold gx_tyf; rw [pf_6_1]; rfl
  | 2, _ => unfold gx_tyf; rw [pf_6_2]; rfl
  | 3, _ => unfold gx_tyf; rw [pf_6_3]; rfl
  | 4, _ => unfold gx_tyf; rw [pf_6_4]; rfl
  | 5, _ => unfold gx_tyf; rw [pf_6_5]; rfl
  | 6, _ => unfold gx_tyf; rw [pf_6_6]; rfl
  | 7, _ => unfold gx_tyf; rw [pf_6_7]; rfl
  | 8, _ => unfold gx_tyf; rw [pf_6_8]; rfl
  | k + 9, hk => exact absurd hk (Nat.not_lt.mpr (Nat.le_add_left _ _))
theorem pf_7_0 : parseFieldDescriptor (gx_c7.2.1 0).2.2.1 = some .int := by decide +kernel
theorem pf_7_1 : parseFieldDescriptor (gx_c7.2.1 1).2.2.1 = some .int := by decide +kernel
theorem pf_7_2 : parseFieldDescriptor (gx_c7.2.1 2).2.2.1 = some (.array .int) := by decide +kernel
theorem pf_7_3 : parseFieldDescriptor (gx_c7.2.1 3).2.2.1 = some .int := by decide +kernel
theorem pf_7_4 : parseFieldDescriptor (gx_c7.2.1 4).2.2.1 = some (.array .int) := by decide +kernel
theorem pf_7_5 : parseFieldDescriptor (gx_c7.2.1 5).2.2.1 = some .int := by decide +kernel
theorem pf_7_6 : parseFieldDescriptor (gx_c7.2.1 6).2.2.1 = some (.array .int) := by decide +kernel
theorem pf_7_7 : parseFieldDescriptor (gx_c7.2.1 7).2.2.1 = some .boolean := by decide +kernel
theorem pf_7_8 : parseFieldDescriptor (gx_c7.2.1 8).2.2.1 = some .int := by decide +kernel
theorem pf_7_9 : parseFieldDescriptor (gx_c7.2.1 9).2.2.1 = some .int := by decide +kernel
theorem pf_7_10 : parseFieldDescriptor (gx_c7.2.1 10).2.2.1 = some .int := by decide +kernel
theorem pf_7_11 : parseFieldDescriptor (gx_c7.2.1 11).2.2.1 = some (.array .int) := by decide +kernel
theorem pf_7_12 : parseFieldDescriptor (gx_c7.2.1 12).2.2.1 = some (.array .int) := by decide +kernel
theorem pf_7_13 : parseFieldDescriptor (gx_c7.2.1 13).2.2.1 = some (.array .int) := by decide +kernel
theorem pf_7_14 : parseFieldDescriptor (gx_c7.2.1 14).2.2.1 = some (.array .int) := by decide +kernel
theorem pf_7_15 : parseFieldDescriptor (gx_c7.2.1 15).2.2.1 = some (.array .int) := by decide +kernel
theorem pf_7_16 : parseFieldDescriptor (gx_c7.2.1 16).2.2.1 = some (.array .int) := by decide +kernel
theorem pf_7_17 : parseFieldDescriptor (gx_c7.2.1 17).2.2.1 = some (.array .int) := by decide +kernel
theorem pf_7_18 : parseFieldDescriptor (gx_c7.2.1 18).2.2.1 = some (.array .int) := by decide +kernel
theorem pf_7_19 : parseFieldDescriptor (gx_c7.2.1 19).2.2.1 = some .int := by decide +kernel
theorem pf_7_20 : parseFieldDescriptor (gx_c7.2.1 20).2.2.1 = some (.array .int) := by decide +kernel
theorem pf_7_21 : parseFieldDescriptor (gx_c7.2.1 21).2.2.1 = some (.array .int) := by decide +kernel
theorem pf_7_22 : parseFieldDescriptor (gx_c7.2.1 22).2.2.1 = some (.array .int) := by decide +kernel
theorem pf_7_23 : parseFieldDescriptor (gx_c7.2.1 23).2.2.1 = some (.array .int) := by decide +kernel
theorem pf_7_24 : parseFieldDescriptor (gx_c7.2.1 24).2.2.1 = some (.array .int) := by decide +kernel
theorem pf_7_25 : parseFieldDescriptor (gx_c7.2.1 25).2.2.1 = some (.array .int) := by decide +kernel
theorem pf_7_26 : parseFieldDescriptor (gx_c7.2.1 26).2.2.1 = some (.array .int) := by decide +kernel
theorem pf_7_27 : parseFieldDescriptor (gx_c7.2.1 27).2.2.1 = some .int := by decide +kernel
theorem pf_7_28 : parseFieldDescriptor (gx_c7.2.1 28).2.2.1 = some .int := by decide +kernel
theorem pf_7_29 : parseFieldDescriptor (gx_c7.2.1 29).2.2.1 = some .int := by decide +kernel
theorem pf_7_30 : parseFieldDescriptor (gx_c7.2.1 30).2.2.1 = some (.array .int) := by decide +kernel
theorem pf_7_31 : parseFieldDescriptor (gx_c7.2.1 31).2.2.1 = some (.array .int) := by decide +kernel
theorem pf_7_32 : parseFieldDescriptor (gx_c7.2.1 32).2.2.1 = some .int := by decide +kernel
theorem pf_7_33 : parseFieldDescriptor (gx_c7.2.1 33).2.2.1 = some (.array .int) := by decide +kernel
theorem pf_7_34 : parseFieldDescriptor (gx_c7.2.1 34).2.2.1 = some .int := by decide +kernel
theorem pf_7_35 : parseFieldDescriptor (gx_c7.2.1 35).2.2.1 = some .int := by decide +kernel
theorem pf_7_36 : parseFieldDescriptor (gx_c7.2.1 36).2.2.1 = some .int := by decide +kernel
theorem pf_7_37 : parseFieldDescriptor (gx_c7.2.1 37).2.2.1 = some .int := by decide +kernel
theorem pf_7_38 : parseFieldDescriptor (gx_c7.2.1 38).2.2.1 = some (.array .int) := by decide +kernel
theorem pf_7_39 : parseFieldDescriptor (gx_c7.2.1 39).2.2.1 = some .int := by decide +kernel
theorem pf_7_40 : parseFieldDescriptor (gx_c7.2.1 40).2.2.1 = some .int := by decide +kernel
theorem pf_7_41 : parseFieldDescriptor (gx_c7.2.1 41).2.2.1 = some .int := by decide +kernel
theorem pf_7_42 : parseFieldDescriptor (gx_c7.2.1 42).2.2.1 = some .int := by decide +kernel
theorem pf_7_43 : parseFieldDescriptor (gx_c7.2.1 43).2.2.1 = some .int := by decide +kernel
theorem pf_7_44 : parseFieldDescriptor (gx_c7.2.1 44).2.2.1 = some .int := by decide +kernel
theorem pf_7_45 : parseFieldDescriptor (gx_c7.2.1 45).2.2.1 = some (.array .int) := by decide +kernel
theorem pf_7_46 : parseFieldDescriptor (gx_c7.2.1 46).2.2.1 = some (.array .int) := by decide +kernel
theorem pf_7_47 : parseFieldDescriptor (gx_c7.2.1 47).2.2.1 = some (.array .int) := by decide +kernel
theorem pf_7_48 : parseFieldDescriptor (gx_c7.2.1 48).2.2.1 = some (.array .int) := by decide +kernel
theorem pf_7_49 : parseFieldDescriptor (gx_c7.2.1 49).2.2.1 = some (.array .int) := by decide +kernel
theorem pf_7_50 : parseFieldDescriptor (gx_c7.2.1 50).2.2.1 = some .boolean := by decide +kernel
theorem pf_7_51 : parseFieldDescriptor (gx_c7.2.1 51).2.2.1 = some .int := by decide +kernel
theorem pf_7_52 : parseFieldDescriptor (gx_c7.2.1 52).2.2.1 = some (.array .int) := by decide +kernel
theorem pf_7_53 : parseFieldDescriptor (gx_c7.2.1 53).2.2.1 = some (.array .int) := by decide +kernel
theorem pf_7_54 : parseFieldDescriptor (gx_c7.2.1 54).2.2.1 = some (.array .int) := by decide +kernel
theorem pf_7_55 : parseFieldDescriptor (gx_c7.2.1 55).2.2.1 = some .int := by decide +kernel
theorem pf_7_56 : parseFieldDescriptor (gx_c7.2.1 56).2.2.1 = some (.array .int) := by decide +kernel
theorem pf_7_57 : parseFieldDescriptor (gx_c7.2.1 57).2.2.1 = some .boolean := by decide +kernel
theorem pf_7_58 : parseFieldDescriptor (gx_c7.2.1 58).2.2.1 = some .int := by decide +kernel
theorem pf_7_59 : parseFieldDescriptor (gx_c7.2.1 59).2.2.1 = some .int := by decide +kernel
def gx_kd7 : List Nat := [0, 0, 2, 0, 2, 0, 2, 1, 0, 0, 0, 2, 2, 2, 2, 2, 2, 2, 2, 0, 2, 2, 2, 2, 2, 2, 2, 0, 0, 0, 2, 2, 0, 2, 0, 0, 0, 0, 2, 0, 0, 0, 0, 0, 0, 2, 2, 2, 2, 2, 1, 0, 2, 2, 2, 0, 2, 1, 0, 0]
theorem gx_uw7 : ∀ w ∈ u_ws gx_c7.1 gx_c7.2.1 gx_c7.2.2, w ∈ gx_Ts := by
  intro w hw
  obtain ⟨k, hk, rfl⟩ := List.mem_map.mp hw
  have hk := List.mem_range.mp hk
  match k, hk with
  | 0, _ => exact wt_810
  | 1, _ => exact wt_811
  | 2, _ => exact wt_812
  | 3, _ => exact wt_813
  | 4, _ => exact wt_814
  | 5, _ => exact wt_815
  | 6, _ => exact wt_816
  | 7, _ => exact wt_817
  | 8, _ => exact wt_818
  | 9, _ => exact wt_819
  | 10, _ => exact wt_820
  | 11, _ => exact wt_821
  | 12, _ => exact wt_822
  | 13, _ => exact wt_823
  | 14, _ => exact wt_824
  | 15, _ => exact wt_825
  | 16, _ => exact wt_826
  | 17, _ => exact wt_827
  | 18, _ => exact wt_828
  | 19, _ => exact wt_829
  | 20, _ => exact wt_830
  | 21, _ => exact wt_831
  | 22, _ => exact wt_832
  | 23, _ => exact wt_833
  | 24, _ => exact wt_834
  | 25, _ => exact wt_835
  | 26, _ => exact wt_836
  | 27, _ => exact wt_837
  | 28, _ => exact wt_838
  | 29, _ => exact wt_839
  | 30, _ => exact wt_840
  | 31, _ => exact wt_841
  | 32, _ => exact wt_842
  | 33, _ => exact wt_843
  | 34, _ => exact wt_844
  | 35, _ => exact wt_845
  | 36, _ => exact wt_846
  | 37, _ => exact wt_847
  | 38, _ => exact wt_848
  | 39, _ => exact wt_849
  | 40, _ => exact wt_850
  | 41, _ => exact wt_851
  | 42, _ => exact wt_852
  | 43, _ => exact wt_853
  | 44, _ => exact wt_854
  | 45, _ => exact wt_855
  | 46, _ => exact wt_856
  | 47, _ => exact wt_857
  | 48, _ => exact wt_858
  | 49, _ => exact wt_859
  | 50, _ => exact wt_860
  | 51, _ => exact wt_861
  | 52, _ => exact wt_862
  | 53, _ => exact wt_863
  | 54, _ => exact wt_864
  | 55, _ => exact wt_865
  | 56, _ => exact wt_866
  | 57, _ => exact wt_867
  | 58, _ => exact wt_868
  | 59, _ => exact wt_869
  | k + 60, hk => exact absurd hk (Nat.not_lt.mpr (Nat.le_add_left _ _))
theorem gx_ok7 : gx_cok gx_c7 := by
  refine ⟨gx_uw7, fun k hk => ?_, gx_nmd [39883499004211, 304492372767, 2323957393, 2321847900, 2324027100, 5199618935604817, 17655756, 5169560848308171, 88442892917996915507, 11586018972259074952172, 681842896949187062, 2310468454, 39460887223972, 5169376226335718, 5199970928410211, 681196191621733027, 2283730457, 39727126356724, 11699635573602172793084, 303260455201, 134780, 39573984166873, 39655839099376, 17586719, 39188186833357, 39999536347306, 2312938328, 132950, 2288055151, 39576890623395, 302091156014, 2324197122, 304476380171, 2324247176, 2314965306, 305027351878, 89928531191393950034, 11780637586074086475209, 301817129684, 683838654558486523, 39341304362980, 304186616540, 17791618, 2313060696, 88711680537781353975, 17553853, 304186376942, 39572805911610, 304456181019, 88448174527300220416, 677212434646161391, 300346979947, 2321776514, 2292775733, 133086, 2314965556, 17791624, 302091154048, 5194300929770644, 5194300929857638] (by decide +kernel) (by decide +kernel)⟩
  match k, hk with
  | 0, _ => exact (show parseFieldDescriptor _ = some ((parseFieldDescriptor _).getD .int) by rw [pf_7_0]; rfl)
  | 1, _ => exact (show parseFieldDescriptor _ = some ((parseFieldDescriptor _).getD .int) by rw [pf_7_1]; rfl)
  | 2, _ => exact (show parseFieldDescriptor _ = some ((parseFieldDescriptor _).getD .int) by rw [pf_7_2]; rfl)
  | 3, _ => exact (show parseFieldDescriptor _ = some ((parseFieldDescriptor _).getD .int) by rw [pf_7_3]; rfl)
  | 4, _ => exact (show parseFieldDescriptor _ = some ((parseFieldDescriptor _).getD .int) by rw [pf_7_4]; rfl)
  | 5, _ => exact (show parseFieldDescriptor _ = some ((parseFieldDescriptor _).getD .int) by rw [pf_7_5]; rfl)
  | 6, _ => exact (show parseFieldDescriptor _ = some ((parseFieldDescriptor _).getD .int) by rw [pf_7_6]; rfl)
  | 7, _ => exact (show parseFieldDescriptor _ = some ((parseFieldDescriptor _).getD .int) by rw [pf_7_7]; rfl)
  | 8, _ => exact (show parseFieldDescriptor _ = some ((parseFieldDescriptor _).getD .int) by rw [pf_7_8]; rfl)
  | 9, _ => exact (show parseFieldDescriptor _ = some ((parseFieldDescriptor _).getD .int) by rw [pf_7_9]; rfl)
  | 10, _ => exact (show parseFieldDescriptor _ = some ((parseFieldDescriptor _).getD .int) by rw [pf_7_10]; rfl)
  | 11, _ => exact (show parseFieldDescriptor _ = some ((parseFieldDescriptor _).getD .int) by rw [pf_7_11]; rfl)
  | 12, _ => exact (show parseFieldDescriptor _ = some ((parseFieldDescriptor _).getD .int) by rw [pf_7_12]; rfl)
  | 13, _ => exact (show parseFieldDescriptor _ = some ((parseFieldDescriptor _).getD .int) by rw [pf_7_13]; rfl)
  | 14, _ => exact (show parseFieldDescriptor _ = some ((parseFieldDescriptor _).getD .int) by rw [pf_7_14]; rfl)
  | 15, _ => exact (show parseFieldDescriptor _ = some ((parseFieldDescriptor _).getD .int) by rw [pf_7_15]; rfl)
  | 16, _ => exact (show parseFieldDescriptor _ = some ((parseFieldDescriptor _).getD .int) by rw [pf_7_16]; rfl)
  | 17, _ => exact (show parseFieldDescriptor _ = some ((parseFieldDescriptor _).getD .int) by rw [pf_7_17]; rfl)
  | 18, _ => exact (show parseFieldDescriptor _ = some ((parseFieldDescriptor _).getD .int) by rw [pf_7_18]; rfl)
  | 19, _ => exact (show parseFieldDescriptor _ = some ((parseFieldDescriptor _).getD .int) by rw [pf_7_19]; rfl)
  | 20, _ => exact (show parseFieldDescriptor _ = some ((parseFieldDescriptor _).getD .int) by rw [pf_7_20]; rfl)
  | 21, _ => exact (show parseFieldDescriptor _ = some ((parseFieldDescriptor _).getD .int) by rw [pf_7_21]; rfl)
  | 22, _ => exact (show parseFieldDescriptor _ = some ((parseFieldDescriptor _).getD .int) by rw [pf_7_22]; rfl)
  | 23, _ => exact (show parseFieldDescriptor _ = some ((parseFieldDescriptor _).getD .int) by rw [pf_7_23]; rfl)
  | 24, _ => exact (show parseFieldDescriptor _ = some ((parseFieldDescriptor _).getD .int) by rw [pf_7_24]; rfl)
  | 25, _ => exact (show parseFieldDescriptor _ = some ((parseFieldDescriptor _).getD .int) by rw [pf_7_25]; rfl)
  | 26, _ => exact (show parseFieldDescriptor _ = some ((parseFieldDescriptor _).getD .int) by rw [pf_7_26]; rfl)
  | 27, _ => exact (show parseFieldDescriptor _ = some ((parseFieldDescriptor _).getD .int) by rw [pf_7_27]; rfl)
  | 28, _ => exact (show parseFieldDescriptor _ = some ((parseFieldDescriptor _).getD .int) by rw [pf_7_28]; rfl)
  | 29, _ => exact (show parseFieldDescriptor _ = some ((parseFieldDescriptor _).getD .int) by rw [pf_7_29]; rfl)
  | 30, _ => exact (show parseFieldDescriptor _ = some ((parseFieldDescriptor _).getD .int) by rw [pf_7_30]; rfl)
  | 31, _ => exact (show parseFieldDescriptor _ = some ((parseFieldDescriptor _).getD .int) by rw [pf_7_31]; rfl)
  | 32, _ => exact (show parseFieldDescriptor _ = some ((parseFieldDescriptor _).getD .int) by rw [pf_7_32]; rfl)
  | 33, _ => exact (show parseFieldDescriptor _ = some ((parseFieldDescriptor _).getD .int) by rw [pf_7_33]; rfl)
  | 34, _ => exact (show parseFieldDescriptor _ = some ((parseFieldDescriptor _).getD .int) by rw [pf_7_34]; rfl)
  | 35, _ => exact (show parseFieldDescriptor _ = some ((parseFieldDescriptor _).getD .int) by rw [pf_7_35]; rfl)
  | 36, _ => exact (show parseFieldDescriptor _ = some ((parseFieldDescriptor _).getD .int) by rw [pf_7_36]; rfl)
  | 37, _ => exact (show parseFieldDescriptor _ = some ((parseFieldDescriptor _).getD .int) by rw [pf_7_37]; rfl)
  | 38, _ => exact (show parseFieldDescriptor _ = some ((parseFieldDescriptor _).getD .int) by rw [pf_7_38]; rfl)
  | 39, _ => exact (show parseFieldDescriptor _ = some ((parseFieldDescriptor _).getD .int) by rw [pf_7_39]; rfl)
  | 40, _ => exact (show parseFieldDescriptor _ = some ((parseFieldDescriptor _).getD .int) by rw [pf_7_40]; rfl)
  | 41, _ => exact (show parseFieldDescriptor _ = some ((parseFieldDescriptor _).getD .int) by rw [pf_7_41]; rfl)
  | 42, _ => exact (show parseFieldDescriptor _ = some ((parseFieldDescriptor _).getD .int) by rw [pf_7_42]; rfl)
  | 43, _ => exact (show parseFieldDescriptor _ = some ((parseFieldDescriptor _).getD .int) by rw [pf_7_43]; rfl)
  | 44, _ => exact (show parseFieldDescriptor _ = some ((parseFieldDescriptor _).getD .int) by rw [pf_7_44]; rfl)
  | 45, _ => exact (show parseFieldDescriptor _ = some ((parseFieldDescriptor _).getD .int) by rw [pf_7_45]; rfl)
  | 46, _ => exact (show parseFieldDescriptor _ = some ((parseFieldDescriptor _).getD .int) by rw [pf_7_46]; rfl)
  | 47, _ => exact (show parseFieldDescriptor _ = some ((parseFieldDescriptor _).getD .int) by rw [pf_7_47]; rfl)
  | 48, _ => exact (show parseFieldDescriptor _ = some ((parseFieldDescriptor _).getD .int) by rw [pf_7_48]; rfl)
  | 49, _ => exact (show parseFieldDescriptor _ = some ((parseFieldDescriptor _).getD .int) by rw [pf_7_49]; rfl)
  | 50, _ => exact (show parseFieldDescriptor _ = some ((parseFieldDescriptor _).getD .int) by rw [pf_7_50]; rfl)
  | 51, _ => exact (show parseFieldDescriptor _ = some ((parseFieldDescriptor _).getD .int) by rw [pf_7_51]; rfl)
  | 52, _ => exact (show parseFieldDescriptor _ = some ((parseFieldDescriptor _).getD .int) by rw [pf_7_52]; rfl)
  | 53, _ => exact (show parseFieldDescriptor _ = some ((parseFieldDescriptor _).getD .int) by rw [pf_7_53]; rfl)
  | 54, _ => exact (show parseFieldDescriptor _ = some ((parseFieldDescriptor _).getD .int) by rw [pf_7_54]; rfl)
  | 55, _ => exact (show parseFieldDescriptor _ = some ((parseFieldDescriptor _).getD .int) by rw [pf_7_55]; rfl)
  | 56, _ => exact (show parseFieldDescriptor _ = some ((parseFieldDescriptor _).getD .int) by rw [pf_7_56]; rfl)
  | 57, _ => exact (show parseFieldDescriptor _ = some ((parseFieldDescriptor _).getD .int) by rw [pf_7_57]; rfl)
  | 58, _ => exact (show parseFieldDescriptor _ = some ((parseFieldDescriptor _).getD .int) by rw [pf_7_58]; rfl)
  | 59, _ => exact (show parseFieldDescriptor _ = some ((parseFieldDescriptor _).getD .int) by rw [pf_7_59]; rfl)
  | k + 60, hk => exact absurd hk (Nat.not_lt.mpr (Nat.le_add_left _ _))
theorem gx_kk7 : ∀ k, k < gx_c7.2.2 → gx_kd7[k]? = some (match gx_tyf gx_c7 k with
  | .int => 0
  | .boolean => 1
  | .object _ => 2
  | .array _ => 2
  | .long => 3
  | _ => 9) := by
  intro k hk
  match k, hk with
  | 0, _ => unfold gx_tyf; rw [pf_7_0]; rfl
  | 1, _ => unfold gx_tyf; rw [pf_7_1]; rfl
  | 2, _ => unfold gx_tyf; rw [pf_7_2]; rfl
  | 3, _ => unfold gx_tyf; rw [pf_7_3]; rfl
  | 4, _ => unfold gx_tyf; rw [pf_7_4]; rfl
  | 5, _ => unfold gx_tyf; rw [pf_7_5]; rfl
  | 6, _ => unfold gx_tyf; rw [pf_7_6]; rfl
  | 7, _ => unfold gx_tyf; rw [pf_7_7]; rfl
  | 8, _ => unfold gx_tyf; rw [pf_7_8]; rfl
  | 9, _ => unfold gx_tyf; rw [pf_7_9]; rfl
  | 10, _ => unfold gx_tyf; rw [pf_7_10]; rfl
  | 11, _ => unfold gx_tyf; rw [pf_7_11]; rfl
  | 12, _ => unfold gx_tyf; rw [pf_7_12]; rfl
  | 13, _ => unfold gx_tyf; rw [pf_7_13]; rfl
  | 14, _ => unfold gx_tyf; rw [pf_7_14]; rfl
  | 15, _ => unfold gx_tyf; rw [pf_7_15]; rfl
  | 16, _ => unfold gx_tyf; rw [pf_7_16]; rfl
  | 17, _ => unfold gx_tyf; rw [pf_7_17]; rfl
  | 18, _ => unfold gx_tyf; rw [pf_7_18]; rfl
  | 19, _ => unfold gx_tyf; rw [pf_7_19]; rfl
  | 20, _ => unfold gx_tyf; rw [pf_7_20]; rfl
  | 21, _ => unfold gx_tyf; rw [pf_7_21]; rfl
  | 22, _ => unfold gx_tyf; rw [pf_7_22]; rfl
  | 23, _ => unfold gx_tyf; rw [pf_7_23]; rfl
  | 24, _ => unfold gx_tyf; rw [pf_7_24]; rfl
  | 25, _ => unfold gx_tyf; rw [pf_7_25]; rfl
  | 26, _ => unfold gx_tyf; rw [pf_7_26]; rfl
  | 27, _ => unfold gx_tyf; rw [pf_7_27]; rfl
  | 28, _ => unfold gx_tyf; rw [pf_7_28]; rfl
  | 29, _ => unfold gx_tyf; rw [pf_7_29]; rfl
  | 30, _ => unfold gx_tyf; rw [pf_7_30]; rfl
  | 31, _ => unfold gx_tyf; rw [pf_7_31]; rfl
  | 32, _ => unfold gx_tyf; rw [pf_7_32]; rfl
  | 33, _ => unfold gx_tyf; rw [pf_7_33]; rfl
  | 34, _ => unfold gx_tyf; rw [pf_7_34]; rfl
  | 35, _ => unfold gx_tyf; rw [pf_7_35]; rfl
  | 36, _ => unfold gx_tyf; rw [pf_7_36]; rfl
  | 37, _ => unfold gx_tyf; rw [pf_7_37]; rfl
  | 38, _ => unfold gx_tyf; rw [pf_7_38]; rfl
  | 39, _ => unfold gx_tyf; rw [pf_7_39]; rfl
  | 40, _ => unfold gx_tyf; rw [pf_7_40]; rfl
  | 41, _ => unfold gx_tyf; rw [pf_7_41]; rfl
  | 42, _ => unfold gx_tyf; rw [pf_7_42]; rfl
  | 43, _ => unfold gx_tyf; rw [pf_7_43]; rfl
  | 44, _ => unfold gx_tyf; rw [pf_7_44]; rfl
  | 45, _ => unfold gx_tyf; rw [pf_7_45]; rfl
  | 46, _ => unfold gx_tyf; rw [pf_7_46]; rfl
  | 47, _ => unfold gx_tyf; rw [pf_7_47]; rfl
  | 48, _ => unfold gx_tyf; rw [pf_7_48]; rfl
  | 49, _ => unfold gx_tyf; rw [pf_7_49]; rfl
  | 50, _ => unfold gx_tyf; rw [pf_7_50]; rfl
  | 51, _ => unfold gx_tyf; rw [pf_7_51]; rfl
  | 52, _ => unfold gx_tyf; rw [pf_7_52]; rfl
  | 53, _ => unfold gx_tyf; rw [pf_7_53]; rfl
  | 54, _ => unfold gx_tyf; rw [pf_7_54]; rfl
  | 55, _ => unfold gx_tyf; rw [pf_7_55]; rfl
  | 56, _ => unfold gx_tyf; rw [pf_7_56]; rfl
  | 57, _ => unfold gx_tyf; rw [pf_7_57]; rfl
  | 58, _ => unfold gx_tyf; rw [pf_7_58]; rfl
  | 59, _ => unfold gx_tyf; rw [pf_7_59]; rfl
  | k + 60, hk => exact absurd hk (Nat.not_lt.mpr (Nat.le_add_left _ _))
def gx_kd : List (List Nat) := [gx_kd0, gx_kd1, gx_kd2, gx_kd3, gx_kd4, gx_kd5, gx_kd6, gx_kd7]
theorem gx_cl_ok : ∀ q ∈ gx_cl, gx_cok q := List.forall_mem_cons.mpr ⟨gx_ok0, List.forall_mem_cons.mpr ⟨gx_ok1, List.forall_mem_cons.mpr ⟨gx_ok2, List.forall_mem_cons.mpr ⟨gx_ok3, List.forall_mem_cons.mpr ⟨gx_ok4, List.forall_mem_cons.mpr ⟨gx_ok5, List.forall_mem_cons.mpr ⟨gx_ok6, List.forall_mem_cons.mpr ⟨gx_ok7, fun _ h => absurd h List.not_mem_nil⟩⟩⟩⟩⟩⟩⟩⟩
