theorem ok_row (r : List mI) (h : r.all okM = true) (k : Nat) (I : mI) (e : nth r k = some I) : okM I = true := by
  induction r generalizing k with
  | nil => cases e
  | cons a l ih =>
    rw [List.all_cons, Bool.and_eq_true] at h
    cases k with
    | zero => cases e; exact h.1
    | succ k => exact ih h.2 k e
theorem okLc_app {I : mI} (a : List mO) (b : List mO) (pa pb : List Nat) (nxt : Option Nat) (h1 : okLc I nxt a pa = true) (h2 : okL I b pb = true) (hn : nxt = nth pb 0) : okL I (a ++ b) (pa ++ pb) = true := by
  induction a generalizing pa with
  | nil =>
    cases pa with
    | nil => exact h2
    | cons => cases h1
  | cons o os ih =>
    cases pa with
    | nil => cases h1
    | cons pc pcs =>
      rw [okLc, Bool.and_eq_true] at h1
      show (okB I pc (nth (pcs ++ pb) 0) o.1 o.2 && okL I (os ++ b) (pcs ++ pb)) = true
      rw [Bool.and_eq_true]
      refine ⟨?_, ih pcs h1.2⟩
      cases pcs with
      | nil =>
        have h3 := h1.1
        rw [hn] at h3
        exact h3
      | cons x xs => exact h1.1
theorem okLc_end {I : mI} (a : List mO) (pa : List Nat) (h1 : okLc I none a pa = true) : okL I a pa = true := by
  have h := okLc_app a [] pa [] none h1 rfl rfl
  rw [List.append_nil, List.append_nil] at h
  exact h
theorem okh_230 : okH mi_230 = true := by decide +kernel
theorem okr_17 : okL mi_230 (lwc_17) (lwp_17) = true := okLc_end _ _ okl_17
theorem okr_16 : okL mi_230 (lwc_16 ++ (lwc_17)) (lwp_16 ++ (lwp_17)) = true := okLc_app _ _ _ _ _ okl_16 okr_17 rfl
theorem okr_15 : okL mi_230 (lwc_15 ++ (lwc_16 ++ (lwc_17))) (lwp_15 ++ (lwp_16 ++ (lwp_17))) = true := okLc_app _ _ _ _ _ okl_15 okr_16 rfl
theorem okr_14 : okL mi_230 (lwc_14 ++ (lwc_15 ++ (lwc_16 ++ (lwc_17)))) (lwp_14 ++ (lwp_15 ++ (lwp_16 ++ (lwp_17)))) = true := okLc_app _ _ _ _ _ okl_14 okr_15 rfl
theorem okr_13 : okL mi_230 (lwc_13 ++ (lwc_14 ++ (lwc_15 ++ (lwc_16 ++ (lwc_17))))) (lwp_13 ++ (lwp_14 ++ (lwp_15 ++ (lwp_16 ++ (lwp_17))))) = true := okLc_app _ _ _ _ _ okl_13 okr_14 rfl
theorem okr_12 : okL mi_230 (lwc_12 ++ (lwc_13 ++ (lwc_14 ++ (lwc_15 ++ (lwc_16 ++ (lwc_17)))))) (lwp_12 ++ (lwp_13 ++ (lwp_14 ++ (lwp_15 ++ (lwp_16 ++ (lwp_17)))))) = true := okLc_app _ _ _ _ _ okl_12 okr_13 rfl
theorem okr_11 : okL mi_230 (lwc_11 ++ (lwc_12 ++ (lwc_13 ++ (lwc_14 ++ (lwc_15 ++ (lwc_16 ++ (lwc_17))))))) (lwp_11 ++ (lwp_12 ++ (lwp_13 ++ (lwp_14 ++ (lwp_15 ++ (lwp_16 ++ (lwp_17))))))) = true := okLc_app _ _ _ _ _ okl_11 okr_12 rfl
theorem okr_10 : okL mi_230 (lwc_10 ++ (lwc_11 ++ (lwc_12 ++ (lwc_13 ++ (lwc_14 ++ (lwc_15 ++ (lwc_16 ++ (lwc_17)))))))) (lwp_10 ++ (lwp_11 ++ (lwp_12 ++ (lwp_13 ++ (lwp_14 ++ (lwp_15 ++ (lwp_16 ++ (lwp_17)))))))) = true := okLc_app _ _ _ _ _ okl_10 okr_11 rfl
theorem okr_9 : okL mi_230 (lwc_9 ++ (lwc_10 ++ (lwc_11 ++ (lwc_12 ++ (lwc_13 ++ (lwc_14 ++ (lwc_15 ++ (lwc_16 ++ (lwc_17))))))))) (lwp_9 ++ (lwp_10 ++ (lwp_11 ++ (lwp_12 ++ (lwp_13 ++ (lwp_14 ++ (lwp_15 ++ (lwp_16 ++ (lwp_17))))))))) = true := okLc_app _ _ _ _ _ okl_9 okr_10 rfl
theorem okr_8 : okL mi_230 (lwc_8 ++ (lwc_9 ++ (lwc_10 ++ (lwc_11 ++ (lwc_12 ++ (lwc_13 ++ (lwc_14 ++ (lwc_15 ++ (lwc_16 ++ (lwc_17)))))))))) (lwp_8 ++ (lwp_9 ++ (lwp_10 ++ (lwp_11 ++ (lwp_12 ++ (lwp_13 ++ (lwp_14 ++ (lwp_15 ++ (lwp_16 ++ (lwp_17)))))))))) = true := okLc_app _ _ _ _ _ okl_8 okr_9 rfl
theorem okr_7 : okL mi_230 (lwc_7 ++ (lwc_8 ++ (lwc_9 ++ (lwc_10 ++ (lwc_11 ++ (lwc_12 ++ (lwc_13 ++ (lwc_14 ++ (lwc_15 ++ (lwc_16 ++ (lwc_17))))))))))) (lwp_7 ++ (lwp_8 ++ (lwp_9 ++ (lwp_10 ++ (lwp_11 ++ (lwp_12 ++ (lwp_13 ++ (lwp_14 ++ (lwp_15 ++ (lwp_16 ++ (lwp_17))))))))))) = true := okLc_app _ _ _ _ _ okl_7 okr_8 rfl
theorem okr_6 : okL mi_230 (lwc_6 ++ (lwc_7 ++ (lwc_8 ++ (lwc_9 ++ (lwc_10 ++ (lwc_11 ++ (lwc_12 ++ (lwc_13 ++ (lwc_14 ++ (lwc_15 ++ (lwc_16 ++ (lwc_17)))))))))))) (lwp_6 ++ (lwp_7 ++ (lwp_8 ++ (lwp_9 ++ (lwp_10 ++ (lwp_11 ++ (lwp_12 ++ (lwp_13 ++ (lwp_14 ++ (lwp_15 ++ (lwp_16 ++ (lwp_17)))))))))))) = true := okLc_app _ _ _ _ _ okl_6 okr_7 rfl
theorem okr_5 : okL mi_230 (lwc_5 ++ (lwc_6 ++ (lwc_7 ++ (lwc_8 ++ (lwc_9 ++ (lwc_10 ++ (lwc_11 ++ (lwc_12 ++ (lwc_13 ++ (lwc_14 ++ (lwc_15 ++ (lwc_16 ++ (lwc_17))))))))))))) (lwp_5 ++ (lwp_6 ++ (lwp_7 ++ (lwp_8 ++ (lwp_9 ++ (lwp_10 ++ (lwp_11 ++ (lwp_12 ++ (lwp_13 ++ (lwp_14 ++ (lwp_15 ++ (lwp_16 ++ (lwp_17))))))))))))) = true := okLc_app _ _ _ _ _ okl_5 okr_6 rfl
theorem okr_4 : okL mi_230 (lwc_4 ++ (lwc_5 ++ (lwc_6 ++ (lwc_7 ++ (lwc_8 ++ (lwc_9 ++ (lwc_10 ++ (lwc_11 ++ (lwc_12 ++ (lwc_13 ++ (lwc_14 ++ (lwc_15 ++ (lwc_16 ++ (lwc_17)))))))))))))) (lwp_4 ++ (lwp_5 ++ (lwp_6 ++ (lwp_7 ++ (lwp_8 ++ (lwp_9 ++ (lwp_10 ++ (lwp_11 ++ (lwp_12 ++ (lwp_13 ++ (lwp_14 ++ (lwp_15 ++ (lwp_16 ++ (lwp_17)))))))))))))) = true := okLc_app _ _ _ _ _ okl_4 okr_5 rfl
theorem okr_3 : okL mi_230 (lwc_3 ++ (lwc_4 ++ (lwc_5 ++ (lwc_6 ++ (lwc_7 ++ (lwc_8 ++ (lwc_9 ++ (lwc_10 ++ (lwc_11 ++ (lwc_12 ++ (lwc_13 ++ (lwc_14 ++ (lwc_15 ++ (lwc_16 ++ (lwc_17))))))))))))))) (lwp_3 ++ (lwp_4 ++ (lwp_5 ++ (lwp_6 ++ (lwp_7 ++ (lwp_8 ++ (lwp_9 ++ (lwp_10 ++ (lwp_11 ++ (lwp_12 ++ (lwp_13 ++ (lwp_14 ++ (lwp_15 ++ (lwp_16 ++ (lwp_17))))))))))))))) = true := okLc_app _ _ _ _ _ okl_3 okr_4 rfl
theorem okr_2 : okL mi_230 (lwc_2 ++ (lwc_3 ++ (lwc_4 ++ (lwc_5 ++ (lwc_6 ++ (lwc_7 ++ (lwc_8 ++ (lwc_9 ++ (lwc_10 ++ (lwc_11 ++ (lwc_12 ++ (lwc_13 ++ (lwc_14 ++ (lwc_15 ++ (lwc_16 ++ (lwc_17)))))))))))))))) (lwp_2 ++ (lwp_3 ++ (lwp_4 ++ (lwp_5 ++ (lwp_6 ++ (lwp_7 ++ (lwp_8 ++ (lwp_9 ++ (lwp_10 ++ (lwp_11 ++ (lwp_12 ++ (lwp_13 ++ (lwp_14 ++ (lwp_15 ++ (lwp_16 ++ (lwp_17)))))))))))))))) = true := okLc_app _ _ _ _ _ okl_2 okr_3 rfl
theorem okr_1 : okL mi_230 (lwc_1 ++ (lwc_2 ++ (lwc_3 ++ (lwc_4 ++ (lwc_5 ++ (lwc_6 ++ (lwc_7 ++ (lwc_8 ++ (lwc_9 ++ (lwc_10 ++ (lwc_11 ++ (lwc_12 ++ (lwc_13 ++ (lwc_14 ++ (lwc_15 ++ (lwc_16 ++ (lwc_17))))))))))))))))) (lwp_1 ++ (lwp_2 ++ (lwp_3 ++ (lwp_4 ++ (lwp_5 ++ (lwp_6 ++ (lwp_7 ++ (lwp_8 ++ (lwp_9 ++ (lwp_10 ++ (lwp_11 ++ (lwp_12 ++ (lwp_13 ++ (lwp_14 ++ (lwp_15 ++ (lwp_16 ++ (lwp_17))))))))))))))))) = true := okLc_app _ _ _ _ _ okl_1 okr_2 rfl
theorem okr_0 : okL mi_230 (lwc_0 ++ (lwc_1 ++ (lwc_2 ++ (lwc_3 ++ (lwc_4 ++ (lwc_5 ++ (lwc_6 ++ (lwc_7 ++ (lwc_8 ++ (lwc_9 ++ (lwc_10 ++ (lwc_11 ++ (lwc_12 ++ (lwc_13 ++ (lwc_14 ++ (lwc_15 ++ (lwc_16 ++ (lwc_17)))))))))))))))))) (lwp_0 ++ (lwp_1 ++ (lwp_2 ++ (lwp_3 ++ (lwp_4 ++ (lwp_5 ++ (lwp_6 ++ (lwp_7 ++ (lwp_8 ++ (lwp_9 ++ (lwp_10 ++ (lwp_11 ++ (lwp_12 ++ (lwp_13 ++ (lwp_14 ++ (lwp_15 ++ (lwp_16 ++ (lwp_17)))))))))))))))))) = true := okLc_app _ _ _ _ _ okl_0 okr_1 rfl
set_option maxRecDepth 100000 in
theorem ok_230 : okM mi_230 = true := by
  unfold okM
  rw [okh_230, Bool.true_and]
  exact okr_0
theorem ok_g0 : mg_0.all okM = true := by
  unfold mg_0
  simp only [List.all_cons, List.all_nil, ok_0, ok_1, ok_2, ok_3, ok_4, ok_5, ok_6, ok_7, ok_8, ok_9, ok_10, ok_11, ok_12, ok_13, ok_14, ok_15, Bool.and_self]
theorem ok_g1 : mg_1.all okM = true := by
  unfold mg_1
  simp only [List.all_cons, List.all_nil, ok_16, ok_17, ok_18, ok_19, ok_20, ok_21, ok_22, ok_23, ok_24, ok_25, ok_26, ok_27, ok_28, ok_29, ok_30, ok_31, Bool.and_self]
theorem ok_g2 : mg_2.all okM = true := by
  unfold mg_2
  simp only [List.all_cons, List.all_nil, ok_32, ok_33, ok_34, ok_35, ok_36, ok_37, ok_38, ok_39, ok_40, ok_41, ok_42, ok_43, ok_44, ok_45, ok_46, ok_47, Bool.and_self]
theorem ok_g3 : mg_3.all okM = true := by
  unfold mg_3
  simp only [List.all_cons, List.all_nil, ok_48, ok_49, ok_50, ok_51, ok_52, ok_53, ok_54, ok_55, ok_56, ok_57, ok_58, ok_59, ok_60, ok_61, ok_62, ok_63, Bool.and_self]
theorem ok_g4 : mg_4.all okM = true := by
  unfold mg_4
  simp only [List.all_cons, List.all_nil, ok_64, ok_65, ok_66, ok_67, ok_68, ok_69, ok_70, ok_71, ok_72, ok_73, ok_74, ok_75, ok_76, ok_77, ok_78, ok_79, Bool.and_self]
theorem ok_g5 : mg_5.all okM = true := by
  unfold mg_5
  simp only [List.all_cons, List.all_nil, ok_80, ok_81, ok_82, ok_83, ok_84, ok_85, ok_86, ok_87, ok_88, ok_89, ok_90, ok_91, ok_92, ok_93, ok_94, ok_95, Bool.and_self]
theorem ok_g6 : mg_6.all okM = true := by
  unfold mg_6
  simp only [List.all_cons, List.all_nil, ok_96, ok_97, ok_98, ok_99, ok_100, ok_101, ok_102, ok_103, ok_104, ok_105, ok_106, ok_107, ok_108, ok_109, ok_110, ok_111, Bool.and_self]
theorem ok_g7 : mg_7.all okM = true := by
  unfold mg_7
  simp only [List.all_cons, List.all_nil, ok_112, ok_113, ok_114, ok_115, ok_116, ok_117, ok_118, ok_119, ok_120, ok_121, ok_122, ok_123, ok_124, ok_125, ok_126, ok_127, Bool.and_self]
theorem ok_g8 : mg_8.all okM = true := by
  unfold mg_8
  simp only [List.all_cons, List.all_nil, ok_128, ok_129, ok_130, ok_131, ok_132, ok_133, ok_134, ok_135, ok_136, ok_137, ok_138, ok_139, ok_140, ok_141, ok_142, ok_143, Bool.and_self]
theorem ok_g9 : mg_9.all okM = true := by
  unfold mg_9
  simp only [List.all_cons, List.all_nil, ok_144, ok_145, ok_146, ok_147, ok_148, ok_149, ok_150, ok_151, ok_152, ok_153, ok_154, ok_155, ok_156, ok_157, ok_158, ok_159, Bool.and_self]
theorem ok_g10 : mg_10.all okM = true := by
  unfold mg_10
  simp only [List.all_cons, List.all_nil, ok_160, ok_161, ok_162, ok_163, ok_164, ok_165, ok_166, ok_167, ok_168, ok_169, ok_170, ok_171, ok_172, ok_173, ok_174, ok_175, Bool.and_self]
theorem ok_g11 : mg_11.all okM = true := by
  unfold mg_11
  simp only [List.all_cons, List.all_nil, ok_176, ok_177, ok_178, ok_179, ok_180, ok_181, ok_182, ok_183, ok_184, ok_185, ok_186, ok_187, ok_188, ok_189, ok_190, ok_191, Bool.and_self]
theorem ok_g12 : mg_12.all okM = true := by
  unfold mg_12
  simp only [List.all_cons, List.all_nil, ok_192, ok_193, ok_194, ok_195, ok_196, ok_197, ok_198, ok_199, ok_200, ok_201, ok_202, ok_203, ok_204, ok_205, ok_206, ok_207, Bool.and_self]
theorem ok_g13 : mg_13.all okM = true := by
  unfold mg_13
  simp only [List.all_cons, List.all_nil, ok_208, ok_209, ok_210, ok_211, ok_212, ok_213, ok_214, ok_215, ok_216, ok_217, ok_218, ok_219, ok_220, ok_221, ok_222, ok_223, Bool.and_self]
theorem ok_g14 : mg_14.all okM = true := by
  unfold mg_14
  simp only [List.all_cons, List.all_nil, ok_224, ok_225, ok_226, ok_227, ok_228, ok_229, ok_230, Bool.and_self]
theorem ok_tab : ∀ r ∈ mTab, r.all okM = true := by
  intro r hr
  unfold mTab at hr
  simp only [List.mem_cons, List.not_mem_nil, or_false] at hr
  rcases hr with rfl | rfl | rfl | rfl | rfl | rfl | rfl | rfl | rfl | rfl | rfl | rfl | rfl | rfl | rfl
  · exact ok_g0
  · exact ok_g1
  · exact ok_g2
  · exact ok_g3
  · exact ok_g4
  · exact ok_g5
  · exact ok_g6
  · exact ok_g7
  · exact ok_g8
  · exact ok_g9
  · exact ok_g10
  · exact ok_g11
  · exact ok_g12
  · exact ok_g13
  · exact ok_g14
theorem nth_mem {α : Type} {l : List α} {k : Nat} {a : α} (h : nth l k = some a) : a ∈ l := by
  induction l generalizing k with
  | nil => cases h
  | cons b l ih =>
    cases k with
    | zero => cases h; exact List.mem_cons_self
    | succ k => exact List.mem_cons_of_mem _ (ih h)
theorem ok_all {t : Nat} {I : mI} (h : mG t = some I) : okM I = true := by
  unfold mG at h
  split at h
  · rename_i r e
    exact ok_row r (ok_tab r (nth_mem e)) _ I h
  · cases h
