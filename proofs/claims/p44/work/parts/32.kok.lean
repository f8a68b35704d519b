/-! ALL METHODS, RULES, CONTRACTS ARE SO (wip/p41/law.py) -/
abbrev zl_Gw : List Jvm.Cond := lw_tbl.filter goodWord
theorem zl_GwG : ∀ w ∈ zl_Gw, (w.onTables && w.keeps) = true ∨ ∃ ty, w = Cond.arrayClass ty := fun w hw => good_of_word (List.mem_filter.mp hw).2
def zl_clsB (r : vw_C) : Bool := (u_ws r.1 r.2.1 r.2.2).all fun w => zk_el w lw_tbl && goodWord w
theorem zl_clsb : vwCl.all zl_clsB = true := by decide +kernel
theorem zl_cls : zk_cls vwCl (zl_Gw ++ zk_nw) := by
  intro i r hr
  have h := List.all_eq_true.mp zl_clsb r (List.mem_of_getElem? hr)
  unfold zl_clsB at h
  refine ⟨fun w hw => ?_, ?_⟩
  · have g := List.all_eq_true.mp h w hw
    simp only [Bool.and_eq_true] at g
    exact List.mem_append_left _ (List.mem_filter.mpr ⟨zk_el_of g.1, g.2⟩)
  · clear h
    match i, hr with
    | 0, hr => cases hr; exact ⟨⟨tyX0, tyX0_ok⟩, nmX0⟩
    | 1, hr => cases hr; exact ⟨⟨tyX1, tyX1_ok⟩, nmX1⟩
    | 2, hr => cases hr; exact ⟨⟨tyX2, tyX2_ok⟩, nmX2⟩
    | 3, hr => cases hr; exact ⟨⟨tyX3, tyX3_ok⟩, nmX3⟩
    | 4, hr => cases hr; exact ⟨⟨tyX4, tyX4_ok⟩, nmX4⟩
    | 5, hr => cases hr; exact ⟨⟨tyX5, tyX5_ok⟩, nmX5⟩
    | 6, hr => cases hr; exact ⟨⟨tyX6, tyX6_ok⟩, nmX6⟩
    | 7, hr => cases hr; exact ⟨⟨tyX7, tyX7_ok⟩, nmX7⟩
    | 8, hr => cases hr; exact ⟨⟨tyX8, tyX8_ok⟩, nmX8⟩
    | 9, hr => cases hr; exact ⟨⟨tyX9, tyX9_ok⟩, nmX9⟩
    | 10, hr => cases hr; exact ⟨⟨tyX10, tyX10_ok⟩, nmX10⟩
    | 11, hr => cases hr; exact ⟨⟨tyX11, tyX11_ok⟩, nmX11⟩
    | 12, hr => cases hr; exact ⟨⟨tyX12, tyX12_ok⟩, nmX12⟩
    | n + 13, hr => exact absurd (List.getElem?_eq_some_iff.mp hr).1 (Nat.not_lt.mpr (Nat.le_add_left 13 n))
def zl_P0 : List zk_M := [zm_0, zm_1, zm_2, zm_3, zm_4, zm_5, zm_6, zm_7, zm_8, zm_9, zm_10, zm_11, zm_12, zm_13, zm_14, zm_15, zm_16, zm_17, zm_18, zm_19, zm_20, zm_21, zm_22, zm_23, zm_24, zm_25, zm_26, zm_27, zm_28, zm_29]
theorem zl_p0 : ∀ M ∈ zl_P0, zk_Mok zl_Gw zk_nw vwCl zk_tab zk_PT M := List.forall_mem_cons.mpr ⟨zk_c0, List.forall_mem_cons.mpr ⟨zk_c1, List.forall_mem_cons.mpr ⟨zk_c2, List.forall_mem_cons.mpr ⟨zk_c3, List.forall_mem_cons.mpr ⟨zk_c4, List.forall_mem_cons.mpr ⟨zk_c5, List.forall_mem_cons.mpr ⟨zk_c6, List.forall_mem_cons.mpr ⟨zk_c7, List.forall_mem_cons.mpr ⟨zk_c8, List.forall_mem_cons.mpr ⟨zk_c9, List.forall_mem_cons.mpr ⟨zk_c10, List.forall_mem_cons.mpr ⟨zk_c11, List.forall_mem_cons.mpr ⟨zk_c12, List.forall_mem_cons.mpr ⟨zk_c13, List.forall_mem_cons.mpr ⟨zk_c14, List.forall_mem_cons.mpr ⟨zk_c15, List.forall_mem_cons.mpr ⟨zk_c16, List.forall_mem_cons.mpr ⟨zk_c17, List.forall_mem_cons.mpr ⟨zk_c18, List.forall_mem_cons.mpr ⟨zk_c19, List.forall_mem_cons.mpr ⟨zk_c20, List.forall_mem_cons.mpr ⟨zk_c21, List.forall_mem_cons.mpr ⟨zk_c22, List.forall_mem_cons.mpr ⟨zk_c23, List.forall_mem_cons.mpr ⟨zk_c24, List.forall_mem_cons.mpr ⟨zk_c25, List.forall_mem_cons.mpr ⟨zk_c26, List.forall_mem_cons.mpr ⟨zk_c27, List.forall_mem_cons.mpr ⟨zk_c28, List.forall_mem_cons.mpr ⟨zk_c29, fun _ h => absurd h List.not_mem_nil⟩⟩⟩⟩⟩⟩⟩⟩⟩⟩⟩⟩⟩⟩⟩⟩⟩⟩⟩⟩⟩⟩⟩⟩⟩⟩⟩⟩⟩⟩
def zl_P1 : List zk_M := [zm_30, zm_31, zm_32, zm_33, zm_34, zm_35, zm_36, zm_37, zm_38, zm_39, zm_40, zm_41, zm_42, zm_43, zm_44, zm_45, zm_46, zm_47, zm_48, zm_49, zm_50, zm_51, zm_52, zm_53, zm_54, zm_55, zm_56, zm_57, zm_58, zm_59]
theorem zl_p1 : ∀ M ∈ zl_P1, zk_Mok zl_Gw zk_nw vwCl zk_tab zk_PT M := List.forall_mem_cons.mpr ⟨zk_c30, List.forall_mem_cons.mpr ⟨zk_c31, List.forall_mem_cons.mpr ⟨zk_c32, List.forall_mem_cons.mpr ⟨zk_c33, List.forall_mem_cons.mpr ⟨zk_c34, List.forall_mem_cons.mpr ⟨zk_c35, List.forall_mem_cons.mpr ⟨zk_c36, List.forall_mem_cons.mpr ⟨zk_c37, List.forall_mem_cons.mpr ⟨zk_c38, List.forall_mem_cons.mpr ⟨zk_c39, List.forall_mem_cons.mpr ⟨zk_c40, List.forall_mem_cons.mpr ⟨zk_c41, List.forall_mem_cons.mpr ⟨zk_c42, List.forall_mem_cons.mpr ⟨zk_c43, List.forall_mem_cons.mpr ⟨zk_c44, List.forall_mem_cons.mpr ⟨zk_c45, List.forall_mem_cons.mpr ⟨zk_c46, List.forall_mem_cons.mpr ⟨zk_c47, List.forall_mem_cons.mpr ⟨zk_c48, List.forall_mem_cons.mpr ⟨zk_c49, List.forall_mem_cons.mpr ⟨zk_c50, List.forall_mem_cons.mpr ⟨zk_c51, List.forall_mem_cons.mpr ⟨zk_c52, List.forall_mem_cons.mpr ⟨zk_c53, List.forall_mem_cons.mpr ⟨zk_c54, List.forall_mem_cons.mpr ⟨zk_c55, List.forall_mem_cons.mpr ⟨zk_c56, List.forall_mem_cons.mpr ⟨zk_c57, List.forall_mem_cons.mpr ⟨zk_c58, List.forall_mem_cons.mpr ⟨zk_c59, fun _ h => absurd h List.not_mem_nil⟩⟩⟩⟩⟩⟩⟩⟩⟩⟩⟩⟩⟩⟩⟩⟩⟩⟩⟩⟩⟩⟩⟩⟩⟩⟩⟩⟩⟩⟩
def zl_P2 : List zk_M := [zm_60, zm_61, zm_62, zm_63, zm_64, zm_65, zm_66, zm_67, zm_68, zm_69, zm_70, zm_71, zm_72, zm_73, zm_74, zm_75, zm_76, zm_77, zm_78, zm_79, zm_80, zm_81, zm_82, zm_83, zm_84, zm_85, zm_86, zm_87, zm_88, zm_89]
theorem zl_p2 : ∀ M ∈ zl_P2, zk_Mok zl_Gw zk_nw vwCl zk_tab zk_PT M := List.forall_mem_cons.mpr ⟨zk_c60, List.forall_mem_cons.mpr ⟨zk_c61, List.forall_mem_cons.mpr ⟨zk_c62, List.forall_mem_cons.mpr ⟨zk_c63, List.forall_mem_cons.mpr ⟨zk_c64, List.forall_mem_cons.mpr ⟨zk_c65, List.forall_mem_cons.mpr ⟨zk_c66, List.forall_mem_cons.mpr ⟨zk_c67, List.forall_mem_cons.mpr ⟨zk_c68, List.forall_mem_cons.mpr ⟨zk_c69, List.forall_mem_cons.mpr ⟨zk_c70, List.forall_mem_cons.mpr ⟨zk_c71, List.forall_mem_cons.mpr ⟨zk_c72, List.forall_mem_cons.mpr ⟨zk_c73, List.forall_mem_cons.mpr ⟨zk_c74, List.forall_mem_cons.mpr ⟨zk_c75, List.forall_mem_cons.mpr ⟨zk_c76, List.forall_mem_cons.mpr ⟨zk_c77, List.forall_mem_cons.mpr ⟨zk_c78, List.forall_mem_cons.mpr ⟨zk_c79, List.forall_mem_cons.mpr ⟨zk_c80, List.forall_mem_cons.mpr ⟨zk_c81, List.forall_mem_cons.mpr ⟨zk_c82, List.forall_mem_cons.mpr ⟨zk_c83, List.forall_mem_cons.mpr ⟨zk_c84, List.forall_mem_cons.mpr ⟨zk_c85, List.forall_mem_cons.mpr ⟨zk_c86, List.forall_mem_cons.mpr ⟨zk_c87, List.forall_mem_cons.mpr ⟨zk_c88, List.forall_mem_cons.mpr ⟨zk_c89, fun _ h => absurd h List.not_mem_nil⟩⟩⟩⟩⟩⟩⟩⟩⟩⟩⟩⟩⟩⟩⟩⟩⟩⟩⟩⟩⟩⟩⟩⟩⟩⟩⟩⟩⟩⟩
def zl_P3 : List zk_M := [zm_90, zm_91, zm_92, zm_93, zm_94, zm_95, zm_96, zm_97, zm_98, zm_99, zm_100, zm_101, zm_102, zm_103, zm_104, zm_105, zm_106, zm_107, zm_108, zm_109, zm_110, zm_111, zm_112, zm_113, zm_114, zm_115, zm_116, zm_117, zm_118, zm_119]
theorem zl_p3 : ∀ M ∈ zl_P3, zk_Mok zl_Gw zk_nw vwCl zk_tab zk_PT M := List.forall_mem_cons.mpr ⟨zk_c90, List.forall_mem_cons.mpr ⟨zk_c91, List.forall_mem_cons.mpr ⟨zk_c92, List.forall_mem_cons.mpr ⟨zk_c93, List.forall_mem_cons.mpr ⟨zk_c94, List.forall_mem_cons.mpr ⟨zk_c95, List.forall_mem_cons.mpr ⟨zk_c96, List.forall_mem_cons.mpr ⟨zk_c97, List.forall_mem_cons.mpr ⟨zk_c98, List.forall_mem_cons.mpr ⟨zk_c99, List.forall_mem_cons.mpr ⟨zk_c100, List.forall_mem_cons.mpr ⟨zk_c101, List.forall_mem_cons.mpr ⟨zk_c102, List.forall_mem_cons.mpr ⟨zk_c103, List.forall_mem_cons.mpr ⟨zk_c104, List.forall_mem_cons.mpr ⟨zk_c105, List.forall_mem_cons.mpr ⟨zk_c106, List.forall_mem_cons.mpr ⟨zk_c107, List.forall_mem_cons.mpr ⟨zk_c108, List.forall_mem_cons.mpr ⟨zk_c109, List.forall_mem_cons.mpr ⟨zk_c110, List.forall_mem_cons.mpr ⟨zk_c111, List.forall_mem_cons.mpr ⟨zk_c112, List.forall_mem_cons.mpr ⟨zk_c113, List.forall_mem_cons.mpr ⟨zk_c114, List.forall_mem_cons.mpr ⟨zk_c115, List.forall_mem_cons.mpr ⟨zk_c116, List.forall_mem_cons.mpr ⟨zk_c117, List.forall_mem_cons.mpr ⟨zk_c118, List.forall_mem_cons.mpr ⟨zk_c119, fun _ h => absurd h List.not_mem_nil⟩⟩⟩⟩⟩⟩⟩⟩⟩⟩⟩⟩⟩⟩⟩⟩⟩⟩⟩⟩⟩⟩⟩⟩⟩⟩⟩⟩⟩⟩
def zl_P4 : List zk_M := [zm_120, zm_121, zm_122, zm_123, zm_124, zm_125, zm_126, zm_127, zm_128, zm_129, zm_130, zm_131, zm_132, zm_133, zm_134, zm_135, zm_136, zm_137, zm_138, zm_139, zm_140, zm_141, zm_142, zm_143, zm_144, zm_145, zm_146, zm_147, zm_148, zm_149]
theorem zl_p4 : ∀ M ∈ zl_P4, zk_Mok zl_Gw zk_nw vwCl zk_tab zk_PT M := List.forall_mem_cons.mpr ⟨zk_c120, List.forall_mem_cons.mpr ⟨zk_c121, List.forall_mem_cons.mpr ⟨zk_c122, List.forall_mem_cons.mpr ⟨zk_c123, List.forall_mem_cons.mpr ⟨zk_c124, List.forall_mem_cons.mpr ⟨zk_c125, List.forall_mem_cons.mpr ⟨zk_c126, List.forall_mem_cons.mpr ⟨zk_c127, List.forall_mem_cons.mpr ⟨zk_c128, List.forall_mem_cons.mpr ⟨zk_c129, List.forall_mem_cons.mpr ⟨zk_c130, List.forall_mem_cons.mpr ⟨zk_c131, List.forall_mem_cons.mpr ⟨zk_c132, List.forall_mem_cons.mpr ⟨zk_c133, List.forall_mem_cons.mpr ⟨zk_c134, List.forall_mem_cons.mpr ⟨zk_c135, List.forall_mem_cons.mpr ⟨zk_c136, List.forall_mem_cons.mpr ⟨zk_c137, List.forall_mem_cons.mpr ⟨zk_c138, List.forall_mem_cons.mpr ⟨zk_c139, List.forall_mem_cons.mpr ⟨zk_c140, List.forall_mem_cons.mpr ⟨zk_c141, List.forall_mem_cons.mpr ⟨zk_c142, List.forall_mem_cons.mpr ⟨zk_c143, List.forall_mem_cons.mpr ⟨zk_c144, List.forall_mem_cons.mpr ⟨zk_c145, List.forall_mem_cons.mpr ⟨zk_c146, List.forall_mem_cons.mpr ⟨zk_c147, List.forall_mem_cons.mpr ⟨zk_c148, List.forall_mem_cons.mpr ⟨zk_c149, fun _ h => absurd h List.not_mem_nil⟩⟩⟩⟩⟩⟩⟩⟩⟩⟩⟩⟩⟩⟩⟩⟩⟩⟩⟩⟩⟩⟩⟩⟩⟩⟩⟩⟩⟩⟩
def zl_P5 : List zk_M := [zm_150, zm_151, zm_152, zm_153, zm_154, zm_155, zm_156, zm_157, zm_158, zm_159, zm_160, zm_161, zm_162, zm_163, zm_164, zm_165, zm_166, zm_167, zm_168, zm_169, zm_170, zm_171, zm_172, zm_173, zm_174, zm_175, zm_176, zm_177, zm_178, zm_179]
theorem zl_p5 : ∀ M ∈ zl_P5, zk_Mok zl_Gw zk_nw vwCl zk_tab zk_PT M := List.forall_mem_cons.mpr ⟨zk_c150, List.forall_mem_cons.mpr ⟨zk_c151, List.forall_mem_cons.mpr ⟨zk_c152, List.forall_mem_cons.mpr ⟨zk_c153, List.forall_mem_cons.mpr ⟨zk_c154, List.forall_mem_cons.mpr ⟨zk_c155, List.forall_mem_cons.mpr ⟨zk_c156, List.forall_mem_cons.mpr ⟨zk_c157, List.forall_mem_cons.mpr ⟨zk_c158, List.forall_mem_cons.mpr ⟨zk_c159, List.forall_mem_cons.mpr ⟨zk_c160, List.forall_mem_cons.mpr ⟨zk_c161, List.forall_mem_cons.mpr ⟨zk_c162, List.forall_mem_cons.mpr ⟨zk_c163, List.forall_mem_cons.mpr ⟨zk_c164, List.forall_mem_cons.mpr ⟨zk_c165, List.forall_mem_cons.mpr ⟨zk_c166, List.forall_mem_cons.mpr ⟨zk_c167, List.forall_mem_cons.mpr ⟨zk_c168, List.forall_mem_cons.mpr ⟨zk_c169, List.forall_mem_cons.mpr ⟨zk_c170, List.forall_mem_cons.mpr ⟨zk_c171, List.forall_mem_cons.mpr ⟨zk_c172, List.forall_mem_cons.mpr ⟨zk_c173, List.forall_mem_cons.mpr ⟨zk_c174, List.forall_mem_cons.mpr ⟨zk_c175, List.forall_mem_cons.mpr ⟨zk_c176, List.forall_mem_cons.mpr ⟨zk_c177, List.forall_mem_cons.mpr ⟨zk_c178, List.forall_mem_cons.mpr ⟨zk_c179, fun _ h => absurd h List.not_mem_nil⟩⟩⟩⟩⟩⟩⟩⟩⟩⟩⟩⟩⟩⟩⟩⟩⟩⟩⟩⟩⟩⟩⟩⟩⟩⟩⟩⟩⟩⟩
def zl_P6 : List zk_M := [zm_180, zm_181, zm_182, zm_183, zm_184, zm_185, zm_186, zm_187, zm_188, zm_189, zm_190, zm_191, zm_192, zm_193, zm_194, zm_195, zm_196, zm_197, zm_198, zm_199, zm_200, zm_201, zm_202, zm_203, zm_204, zm_205, zm_206, zm_207, zm_208, zm_209]
theorem zl_p6 : ∀ M ∈ zl_P6, zk_Mok zl_Gw zk_nw vwCl zk_tab zk_PT M := List.forall_mem_cons.mpr ⟨zk_c180, List.forall_mem_cons.mpr ⟨zk_c181, List.forall_mem_cons.mpr ⟨zk_c182, List.forall_mem_cons.mpr ⟨zk_c183, List.forall_mem_cons.mpr ⟨zk_c184, List.forall_mem_cons.mpr ⟨zk_c185, List.forall_mem_cons.mpr ⟨zk_c186, List.forall_mem_cons.mpr ⟨zk_c187, List.forall_mem_cons.mpr ⟨zk_c188, List.forall_mem_cons.mpr ⟨zk_c189, List.forall_mem_cons.mpr ⟨zk_c190, List.forall_mem_cons.mpr ⟨zk_c191, List.forall_mem_cons.mpr ⟨zk_c192, List.forall_mem_cons.mpr ⟨zk_c193, List.forall_mem_cons.mpr ⟨zk_c194, List.forall_mem_cons.mpr ⟨zk_c195, List.forall_mem_cons.mpr ⟨zk_c196, List.forall_mem_cons.mpr ⟨zk_c197, List.forall_mem_cons.mpr ⟨zk_c198, List.forall_mem_cons.mpr ⟨zk_c199, List.forall_mem_cons.mpr ⟨zk_c200, List.forall_mem_cons.mpr ⟨zk_c201, List.forall_mem_cons.mpr ⟨zk_c202, List.forall_mem_cons.mpr ⟨zk_c203, List.forall_mem_cons.mpr ⟨zk_c204, List.forall_mem_cons.mpr ⟨zk_c205, List.forall_mem_cons.mpr ⟨zk_c206, List.forall_mem_cons.mpr ⟨zk_c207, List.forall_mem_cons.mpr ⟨zk_c208, List.forall_mem_cons.mpr ⟨zk_c209, fun _ h => absurd h List.not_mem_nil⟩⟩⟩⟩⟩⟩⟩⟩⟩⟩⟩⟩⟩⟩⟩⟩⟩⟩⟩⟩⟩⟩⟩⟩⟩⟩⟩⟩⟩⟩
def zl_P7 : List zk_M := [zm_210, zm_211, zm_212, zm_213, zm_214, zm_215, zm_216, zm_217, zm_218, zm_219, zm_220, zm_221, zm_222, zm_223, zm_224, zm_225, zm_226, zm_227, zm_228, zm_229, zm_230, zm_231, zm_232, zm_233, zm_234, zm_235, zm_236, zm_237, zm_238, zm_239]
theorem zl_p7 : ∀ M ∈ zl_P7, zk_Mok zl_Gw zk_nw vwCl zk_tab zk_PT M := List.forall_mem_cons.mpr ⟨zk_c210, List.forall_mem_cons.mpr ⟨zk_c211, List.forall_mem_cons.mpr ⟨zk_c212, List.forall_mem_cons.mpr ⟨zk_c213, List.forall_mem_cons.mpr ⟨zk_c214, List.forall_mem_cons.mpr ⟨zk_c215, List.forall_mem_cons.mpr ⟨zk_c216, List.forall_mem_cons.mpr ⟨zk_c217, List.forall_mem_cons.mpr ⟨zk_c218, List.forall_mem_cons.mpr ⟨zk_c219, List.forall_mem_cons.mpr ⟨zk_c220, List.forall_mem_cons.mpr ⟨zk_c221, List.forall_mem_cons.mpr ⟨zk_c222, List.forall_mem_cons.mpr ⟨zk_c223, List.forall_mem_cons.mpr ⟨zk_c224, List.forall_mem_cons.mpr ⟨zk_c225, List.forall_mem_cons.mpr ⟨zk_c226, List.forall_mem_cons.mpr ⟨zk_c227, List.forall_mem_cons.mpr ⟨zk_c228, List.forall_mem_cons.mpr ⟨zk_c229, List.forall_mem_cons.mpr ⟨zk_c230, List.forall_mem_cons.mpr ⟨zk_c231, List.forall_mem_cons.mpr ⟨zk_c232, List.forall_mem_cons.mpr ⟨zk_c233, List.forall_mem_cons.mpr ⟨zk_c234, List.forall_mem_cons.mpr ⟨zk_c235, List.forall_mem_cons.mpr ⟨zk_c236, List.forall_mem_cons.mpr ⟨zk_c237, List.forall_mem_cons.mpr ⟨zk_c238, List.forall_mem_cons.mpr ⟨zk_c239, fun _ h => absurd h List.not_mem_nil⟩⟩⟩⟩⟩⟩⟩⟩⟩⟩⟩⟩⟩⟩⟩⟩⟩⟩⟩⟩⟩⟩⟩⟩⟩⟩⟩⟩⟩⟩
def zl_P8 : List zk_M := [zm_240, zm_241, zm_242, zm_243, zm_244, zm_245, zm_246, zm_247, zm_248, zm_249, zm_250, zm_251, zm_252, zm_253]
theorem zl_p8 : ∀ M ∈ zl_P8, zk_Mok zl_Gw zk_nw vwCl zk_tab zk_PT M := List.forall_mem_cons.mpr ⟨zk_c240, List.forall_mem_cons.mpr ⟨zk_c241, List.forall_mem_cons.mpr ⟨zk_c242, List.forall_mem_cons.mpr ⟨zk_c243, List.forall_mem_cons.mpr ⟨zk_c244, List.forall_mem_cons.mpr ⟨zk_c245, List.forall_mem_cons.mpr ⟨zk_c246, List.forall_mem_cons.mpr ⟨zk_c247, List.forall_mem_cons.mpr ⟨zk_c248, List.forall_mem_cons.mpr ⟨zk_c249, List.forall_mem_cons.mpr ⟨zk_c250, List.forall_mem_cons.mpr ⟨zk_c251, List.forall_mem_cons.mpr ⟨zk_c252, List.forall_mem_cons.mpr ⟨zk_c253, fun _ h => absurd h List.not_mem_nil⟩⟩⟩⟩⟩⟩⟩⟩⟩⟩⟩⟩⟩⟩
def zl_P9 : List zk_M := [zm_254, zm_255, zm_256, zm_257, zm_258, zm_259, zm_260, zm_261, zm_262, zm_263, zm_264, zm_265, zm_266]
theorem zl_p9 : ∀ M ∈ zl_P9, zk_Mok zl_Gw zk_nw vwCl zk_tab zk_PT M := List.forall_mem_cons.mpr ⟨zk_c254, List.forall_mem_cons.mpr ⟨zk_c255, List.forall_mem_cons.mpr ⟨zk_c256, List.forall_mem_cons.mpr ⟨zk_c257, List.forall_mem_cons.mpr ⟨zk_c258, List.forall_mem_cons.mpr ⟨zk_c259, List.forall_mem_cons.mpr ⟨zk_c260, List.forall_mem_cons.mpr ⟨zk_c261, List.forall_mem_cons.mpr ⟨zk_c262, List.forall_mem_cons.mpr ⟨zk_c263, List.forall_mem_cons.mpr ⟨zk_c264, List.forall_mem_cons.mpr ⟨zk_c265, List.forall_mem_cons.mpr ⟨zk_c266, fun _ h => absurd h List.not_mem_nil⟩⟩⟩⟩⟩⟩⟩⟩⟩⟩⟩⟩⟩
set_option maxRecDepth 20000 in
theorem zl_PTe : zk_PT = zl_P0 ++ zl_P1 ++ zl_P2 ++ zl_P3 ++ zl_P4 ++ zl_P5 ++ zl_P6 ++ zl_P7 ++ zl_P8 ++ zl_P9 := rfl
theorem zl_PTn : (zk_PT.all fun M => decide (M.1.cls ≠ "NightLetInLaw")) = true := by decide +kernel
theorem zl_PT : ∀ (i : Nat) (M : zk_M), zk_PT[i]? = some M → zk_Mok zl_Gw zk_nw vwCl zk_tab zk_PT M ∧ M.1.cls ≠ "NightLetInLaw" := by
  intro i M hM
  have hm := List.mem_of_getElem? hM
  refine ⟨?_, of_decide_eq_true (List.all_eq_true.mp zl_PTn M hm)⟩
  clear hM
  rw [zl_PTe] at hm
  simp only [List.mem_append] at hm
  rcases hm with (((((((((h | h) | h) | h) | h) | h) | h) | h) | h) | h)
  · exact zl_p0 M h
  · exact zl_p1 M h
  · exact zl_p2 M h
  · exact zl_p3 M h
  · exact zl_p4 M h
  · exact zl_p5 M h
  · exact zl_p6 M h
  · exact zl_p7 M h
  · exact zl_p8 M h
  · exact zl_p9 M h
theorem zl_ctn : (zl_P0 ++ zl_P1 ++ zl_P2 ++ zl_P3 ++ zl_P4 ++ zl_P5 ++ zl_P6 ++ zl_P7 ++ zl_P8).all (fun M => !(decide (M.1.name = "<init>"))) = true := by decide +kernel
theorem zl_ctk : ∀ M ∈ zl_P9, ∀ v ∈ M.2.2.2.2.2.1, zb_kB M.1.cls (zl_Gw ++ zk_nw) vwCl v ∧ zb_kI zl_Gw zk_nw zk_PT M.1.cls v := List.forall_mem_cons.mpr ⟨zb_c254, List.forall_mem_cons.mpr ⟨zb_c255, List.forall_mem_cons.mpr ⟨zb_c256, List.forall_mem_cons.mpr ⟨zb_c257, List.forall_mem_cons.mpr ⟨zb_c258, List.forall_mem_cons.mpr ⟨zb_c259, List.forall_mem_cons.mpr ⟨zb_c260, List.forall_mem_cons.mpr ⟨zb_c261, List.forall_mem_cons.mpr ⟨zb_c262, List.forall_mem_cons.mpr ⟨zb_c263, List.forall_mem_cons.mpr ⟨zb_c264, List.forall_mem_cons.mpr ⟨zb_c265, List.forall_mem_cons.mpr ⟨zb_c266, fun _ h => absurd h List.not_mem_nil⟩⟩⟩⟩⟩⟩⟩⟩⟩⟩⟩⟩⟩
theorem zl_PTc : ∀ (i : Nat) (M : zk_M), zk_PT[i]? = some M → M.1.name = "<init>" → (zk_Mok zl_Gw zk_nw vwCl zk_tab zk_PT M ∧ M.1.cls ≠ "NightLetInLaw") ∧ ∀ v ∈ M.2.2.2.2.2.1, zb_kB M.1.cls (zl_Gw ++ zk_nw) vwCl v ∧ zb_kI zl_Gw zk_nw zk_PT M.1.cls v := by
  intro i M hM hn
  refine ⟨zl_PT i M hM, ?_⟩
  have hm := List.mem_of_getElem? hM
  clear hM
  rw [zl_PTe, List.mem_append] at hm
  rcases hm with h | h
  · have g : (!(decide (M.1.name = "<init>"))) = true := List.all_eq_true.mp zl_ctn M h
    rw [decide_eq_true hn] at g
    cases g
  · exact zl_ctk M h
theorem zl_RT : ∀ f ∈ zk_RT, zk_Rok f := List.forall_mem_cons.mpr ⟨(zk_rdiv_ok), List.forall_mem_cons.mpr ⟨(zk_rci_ok 8 1), List.forall_mem_cons.mpr ⟨(zk_rcs_ok), List.forall_mem_cons.mpr ⟨(zk_rtup_ok), List.forall_mem_cons.mpr ⟨(zk_rund_ok), List.forall_mem_cons.mpr ⟨(zk_r21i_ok), List.forall_mem_cons.mpr ⟨(zk_r21s_ok 26 27 5 3 4), List.forall_mem_cons.mpr ⟨(zk_r22_ok 3 2), List.forall_mem_cons.mpr ⟨(zk_r51a_ok 1 2), List.forall_mem_cons.mpr ⟨(zk_r52i_ok 1 3 2), List.forall_mem_cons.mpr ⟨(zk_r52s_ok), List.forall_mem_cons.mpr ⟨(zk_r51b_ok 1 3 2 4), List.forall_mem_cons.mpr ⟨(zk_r53i_ok), List.forall_mem_cons.mpr ⟨(zk_r53b_ok), List.forall_mem_cons.mpr ⟨(zk_r53t_ok 1), List.forall_mem_cons.mpr ⟨(zk_r53s_ok 1 2), List.forall_mem_cons.mpr ⟨(zk_r53r_ok 1 2 4), List.forall_mem_cons.mpr ⟨(zk_r53r_ok 4 3 5), List.forall_mem_cons.mpr ⟨(zk_r54i_ok 1 2), List.forall_mem_cons.mpr ⟨(zk_r54s_ok 1 2 4 3), List.forall_mem_cons.mpr ⟨(zk_r55i_ok 4 3), List.forall_mem_cons.mpr ⟨(zk_r55o_ok 4 3 5), List.forall_mem_cons.mpr ⟨(zk_r55s_ok 4 3 5), List.forall_mem_cons.mpr ⟨(zk_thn_ok zk_rT_ok (zk_thn_ok (zk_rag_ok _ _) (zk_rag_ok _ _))), List.forall_mem_cons.mpr ⟨(zk_r28i_ok), List.forall_mem_cons.mpr ⟨(zk_r28o_ok), List.forall_mem_cons.mpr ⟨(zk_r22t_ok), List.forall_mem_cons.mpr ⟨(zk_thn_ok zk_r28i_ok zk_r22t_ok), List.forall_mem_cons.mpr ⟨(zk_thn_ok (zk_rag_ok _ _) (zk_thn_ok (zk_rag_ok _ _) (zk_thn_ok (zk_rln_ok _) (zk_thn_ok (zk_rag_ok _ _) (zk_thn_ok (zk_rag_ok _ _) (zk_rag_ok _ _)))))), List.forall_mem_cons.mpr ⟨(zk_thn_ok (zk_r25i_ok _ _) (zk_r25i_ok _ _)), List.forall_mem_cons.mpr ⟨(zk_thn_ok zk_r28c_ok (zk_thn_ok (zk_r25s_ok _) (zk_r25s_ok _))), List.forall_mem_cons.mpr ⟨(zk_thn_ok zk_r28c_ok (zk_thn_ok (zk_r25i_ok _ _) (zk_thn_ok (zk_r25i_ok _ _) (zk_rrd_ok _)))), List.forall_mem_cons.mpr ⟨(zk_thn_ok zk_r28c_ok (zk_thn_ok (zk_r25s_ok _) (zk_r25s_ok _))), List.forall_mem_cons.mpr ⟨(zk_rfin_ok), List.forall_mem_cons.mpr ⟨(zk_rF_ok _), List.forall_mem_cons.mpr ⟨(zk_rz1_ok), List.forall_mem_cons.mpr ⟨(zk_rel_ok), List.forall_mem_cons.mpr ⟨(zk_rsp_ok _ _ _), List.forall_mem_cons.mpr ⟨(zk_thn_ok (zk_rsp_ok _ _ _) (zk_rsp_ok _ _ _)), List.forall_mem_cons.mpr ⟨(zk_rst_ok), List.forall_mem_cons.mpr ⟨(zk_thn_ok zk_rel_ok (zk_x68_ok _ _)), List.forall_mem_cons.mpr ⟨(zk_thn_ok zk_rel_ok (zk_r68_ok _ _)), List.forall_mem_cons.mpr ⟨(zk_relT_ok), List.forall_mem_cons.mpr ⟨(zk_thn_ok zk_relT_ok (zk_r68_ok _ _)), List.forall_mem_cons.mpr ⟨(zk_rcg_ok), List.forall_mem_cons.mpr ⟨(zk_rag2_ok), List.forall_mem_cons.mpr ⟨(zk_thn_ok (zk_rsp_ok _ _ _) (zk_rsq_ok _ _ _ _)), List.forall_mem_cons.mpr ⟨(zk_thn_ok (zk_rsp_ok _ _ _) (zk_rsp_ok _ _ _)), fun _ h => absurd h List.not_mem_nil⟩⟩⟩⟩⟩⟩⟩⟩⟩⟩⟩⟩⟩⟩⟩⟩⟩⟩⟩⟩⟩⟩⟩⟩⟩⟩⟩⟩⟩⟩⟩⟩⟩⟩⟩⟩⟩⟩⟩⟩⟩⟩⟩⟩⟩⟩⟩⟩
def zl_K (K : zk_K) : Prop := ∀ (dC : Nat → ClassId) (dI : Nat → Nat → Nat) (ad st : Nat → Nat) (cid : zk_CI) (ba : Nat) (l : Launch), zk_Kok dC dI vwCl ad st cid ba zk_ly0 zk_tab zl_Gw zk_nw zk_PT l K
theorem zl_Kof {CT : List zk_K} (hCT : ∀ K ∈ CT, zl_K K) {K : zk_K} (h : zk_Kb zk_PT CT zk_RT zk_tab 100000 K = true) : zl_K K := fun dC dI ad st cid ba l => zk_Kb_of (RT := zk_RT) (fun K hK => hCT K hK dC dI ad st cid ba l) zk_nw_ok zl_GwG zl_cls zl_PT zl_RT h
theorem zk_ki0_k : zl_K zk_ki0 := zl_Kof (CT := []) (fun _ h => absurd h List.not_mem_nil) zk_ki0_b
theorem zk_ki1_k : zl_K zk_ki1 := zl_Kof (CT := []) (fun _ h => absurd h List.not_mem_nil) zk_ki1_b
theorem zk_ki2_k : zl_K zk_ki2 := zl_Kof (CT := []) (fun _ h => absurd h List.not_mem_nil) zk_ki2_b
theorem zk_ki3_k : zl_K zk_ki3 := zl_Kof (CT := [zk_ki2]) (List.forall_mem_cons.mpr ⟨zk_ki2_k, fun _ h => absurd h List.not_mem_nil⟩) zk_ki3_b
theorem zk_ki4_k : zl_K zk_ki4 := zl_Kof (CT := []) (fun _ h => absurd h List.not_mem_nil) zk_ki4_b
theorem zk_ki5_k : zl_K zk_ki5 := zl_Kof (CT := []) (fun _ h => absurd h List.not_mem_nil) zk_ki5_b
theorem zk_ki6_k : zl_K zk_ki6 := zl_Kof (CT := []) (fun _ h => absurd h List.not_mem_nil) zk_ki6_b
theorem zk_ki7_k : zl_K zk_ki7 := zl_Kof (CT := [zk_ki6]) (List.forall_mem_cons.mpr ⟨zk_ki6_k, fun _ h => absurd h List.not_mem_nil⟩) zk_ki7_b
theorem zk_ki8_k : zl_K zk_ki8 := zl_Kof (CT := []) (fun _ h => absurd h List.not_mem_nil) zk_ki8_b
theorem zk_ki9_k : zl_K zk_ki9 := zl_Kof (CT := [zk_ki0]) (List.forall_mem_cons.mpr ⟨zk_ki0_k, fun _ h => absurd h List.not_mem_nil⟩) zk_ki9_b
theorem zk_ki10_k : zl_K zk_ki10 := zl_Kof (CT := [zk_ki9]) (List.forall_mem_cons.mpr ⟨zk_ki9_k, fun _ h => absurd h List.not_mem_nil⟩) zk_ki10_b
theorem zk_ki11_k : zl_K zk_ki11 := zl_Kof (CT := [zk_ki9]) (List.forall_mem_cons.mpr ⟨zk_ki9_k, fun _ h => absurd h List.not_mem_nil⟩) zk_ki11_b
theorem zk_ki12_k : zl_K zk_ki12 := zl_Kof (CT := [zk_ki9]) (List.forall_mem_cons.mpr ⟨zk_ki9_k, fun _ h => absurd h List.not_mem_nil⟩) zk_ki12_b
theorem zk_ki13_k : zl_K zk_ki13 := zl_Kof (CT := [zk_ki9]) (List.forall_mem_cons.mpr ⟨zk_ki9_k, fun _ h => absurd h List.not_mem_nil⟩) zk_ki13_b
theorem zk_ki14_k : zl_K zk_ki14 := zl_Kof (CT := [zk_ki9]) (List.forall_mem_cons.mpr ⟨zk_ki9_k, fun _ h => absurd h List.not_mem_nil⟩) zk_ki14_b
theorem zk_ki15_k : zl_K zk_ki15 := zl_Kof (CT := [zk_ki9]) (List.forall_mem_cons.mpr ⟨zk_ki9_k, fun _ h => absurd h List.not_mem_nil⟩) zk_ki15_b
theorem zk_ki16_k : zl_K zk_ki16 := zl_Kof (CT := []) (fun _ h => absurd h List.not_mem_nil) zk_ki16_b
theorem zk_ki17_k : zl_K zk_ki17 := zl_Kof (CT := [zk_ki16]) (List.forall_mem_cons.mpr ⟨zk_ki16_k, fun _ h => absurd h List.not_mem_nil⟩) zk_ki17_b
theorem zk_ki18_k : zl_K zk_ki18 := zl_Kof (CT := [zk_ki16, zk_ki17]) (List.forall_mem_cons.mpr ⟨zk_ki16_k, List.forall_mem_cons.mpr ⟨zk_ki17_k, fun _ h => absurd h List.not_mem_nil⟩⟩) zk_ki18_b
theorem zk_ki19_k : zl_K zk_ki19 := zl_Kof (CT := [zk_ki17, zk_ki18]) (List.forall_mem_cons.mpr ⟨zk_ki17_k, List.forall_mem_cons.mpr ⟨zk_ki18_k, fun _ h => absurd h List.not_mem_nil⟩⟩) zk_ki19_b
theorem zk_ki20_k : zl_K zk_ki20 := zl_Kof (CT := []) (fun _ h => absurd h List.not_mem_nil) zk_ki20_b
theorem zk_ki21_k : zl_K zk_ki21 := zl_Kof (CT := [zk_ki20]) (List.forall_mem_cons.mpr ⟨zk_ki20_k, fun _ h => absurd h List.not_mem_nil⟩) zk_ki21_b
theorem zk_ki22_k : zl_K zk_ki22 := zl_Kof (CT := [zk_ki21]) (List.forall_mem_cons.mpr ⟨zk_ki21_k, fun _ h => absurd h List.not_mem_nil⟩) zk_ki22_b
theorem zk_ki23_k : zl_K zk_ki23 := zl_Kof (CT := [zk_ki22]) (List.forall_mem_cons.mpr ⟨zk_ki22_k, fun _ h => absurd h List.not_mem_nil⟩) zk_ki23_b
theorem zk_ki24_k : zl_K zk_ki24 := zl_Kof (CT := [zk_ki23]) (List.forall_mem_cons.mpr ⟨zk_ki23_k, fun _ h => absurd h List.not_mem_nil⟩) zk_ki24_b
theorem zk_ki25_k : zl_K zk_ki25 := zl_Kof (CT := [zk_ki24]) (List.forall_mem_cons.mpr ⟨zk_ki24_k, fun _ h => absurd h List.not_mem_nil⟩) zk_ki25_b
theorem zk_ki26_k : zl_K zk_ki26 := zl_Kof (CT := [zk_ki25]) (List.forall_mem_cons.mpr ⟨zk_ki25_k, fun _ h => absurd h List.not_mem_nil⟩) zk_ki26_b
theorem zk_ki27_k : zl_K zk_ki27 := zl_Kof (CT := [zk_ki26]) (List.forall_mem_cons.mpr ⟨zk_ki26_k, fun _ h => absurd h List.not_mem_nil⟩) zk_ki27_b
theorem zk_ki28_k : zl_K zk_ki28 := zl_Kof (CT := [zk_ki21, zk_ki27]) (List.forall_mem_cons.mpr ⟨zk_ki21_k, List.forall_mem_cons.mpr ⟨zk_ki27_k, fun _ h => absurd h List.not_mem_nil⟩⟩) zk_ki28_b
theorem zk_ki29_k : zl_K zk_ki29 := zl_Kof (CT := [zk_ki20, zk_ki28]) (List.forall_mem_cons.mpr ⟨zk_ki20_k, List.forall_mem_cons.mpr ⟨zk_ki28_k, fun _ h => absurd h List.not_mem_nil⟩⟩) zk_ki29_b
theorem zk_ki30_k : zl_K zk_ki30 := zl_Kof (CT := [zk_ki29]) (List.forall_mem_cons.mpr ⟨zk_ki29_k, fun _ h => absurd h List.not_mem_nil⟩) zk_ki30_b
theorem zk_ki31_k : zl_K zk_ki31 := zl_Kof (CT := [zk_ki30]) (List.forall_mem_cons.mpr ⟨zk_ki30_k, fun _ h => absurd h List.not_mem_nil⟩) zk_ki31_b
theorem zk_ki32_k : zl_K zk_ki32 := zl_Kof (CT := [zk_ki31]) (List.forall_mem_cons.mpr ⟨zk_ki31_k, fun _ h => absurd h List.not_mem_nil⟩) zk_ki32_b
theorem zk_ki33_k : zl_K zk_ki33 := zl_Kof (CT := [zk_ki32]) (List.forall_mem_cons.mpr ⟨zk_ki32_k, fun _ h => absurd h List.not_mem_nil⟩) zk_ki33_b
theorem zk_ki34_k : zl_K zk_ki34 := zl_Kof (CT := [zk_ki33]) (List.forall_mem_cons.mpr ⟨zk_ki33_k, fun _ h => absurd h List.not_mem_nil⟩) zk_ki34_b
theorem zk_ki35_k : zl_K zk_ki35 := zl_Kof (CT := [zk_ki34]) (List.forall_mem_cons.mpr ⟨zk_ki34_k, fun _ h => absurd h List.not_mem_nil⟩) zk_ki35_b
theorem zk_ki36_k : zl_K zk_ki36 := zl_Kof (CT := [zk_ki29, zk_ki35]) (List.forall_mem_cons.mpr ⟨zk_ki29_k, List.forall_mem_cons.mpr ⟨zk_ki35_k, fun _ h => absurd h List.not_mem_nil⟩⟩) zk_ki36_b
theorem zk_ki37_k : zl_K zk_ki37 := zl_Kof (CT := [zk_ki20, zk_ki36]) (List.forall_mem_cons.mpr ⟨zk_ki20_k, List.forall_mem_cons.mpr ⟨zk_ki36_k, fun _ h => absurd h List.not_mem_nil⟩⟩) zk_ki37_b
theorem zk_ki38_k : zl_K zk_ki38 := zl_Kof (CT := [zk_ki37]) (List.forall_mem_cons.mpr ⟨zk_ki37_k, fun _ h => absurd h List.not_mem_nil⟩) zk_ki38_b
theorem zk_ki39_k : zl_K zk_ki39 := zl_Kof (CT := [zk_ki38]) (List.forall_mem_cons.mpr ⟨zk_ki38_k, fun _ h => absurd h List.not_mem_nil⟩) zk_ki39_b
theorem zk_ki40_k : zl_K zk_ki40 := zl_Kof (CT := [zk_ki39]) (List.forall_mem_cons.mpr ⟨zk_ki39_k, fun _ h => absurd h List.not_mem_nil⟩) zk_ki40_b
theorem zk_ki41_k : zl_K zk_ki41 := zl_Kof (CT := [zk_ki40]) (List.forall_mem_cons.mpr ⟨zk_ki40_k, fun _ h => absurd h List.not_mem_nil⟩) zk_ki41_b
theorem zk_ki42_k : zl_K zk_ki42 := zl_Kof (CT := [zk_ki41]) (List.forall_mem_cons.mpr ⟨zk_ki41_k, fun _ h => absurd h List.not_mem_nil⟩) zk_ki42_b
theorem zk_ki43_k : zl_K zk_ki43 := zl_Kof (CT := [zk_ki42]) (List.forall_mem_cons.mpr ⟨zk_ki42_k, fun _ h => absurd h List.not_mem_nil⟩) zk_ki43_b
theorem zk_ki44_k : zl_K zk_ki44 := zl_Kof (CT := [zk_ki37, zk_ki43]) (List.forall_mem_cons.mpr ⟨zk_ki37_k, List.forall_mem_cons.mpr ⟨zk_ki43_k, fun _ h => absurd h List.not_mem_nil⟩⟩) zk_ki44_b
theorem zk_ki45_k : zl_K zk_ki45 := zl_Kof (CT := [zk_ki20, zk_ki44]) (List.forall_mem_cons.mpr ⟨zk_ki20_k, List.forall_mem_cons.mpr ⟨zk_ki44_k, fun _ h => absurd h List.not_mem_nil⟩⟩) zk_ki45_b
theorem zk_ki46_k : zl_K zk_ki46 := zl_Kof (CT := [zk_ki45]) (List.forall_mem_cons.mpr ⟨zk_ki45_k, fun _ h => absurd h List.not_mem_nil⟩) zk_ki46_b
theorem zk_ki47_k : zl_K zk_ki47 := zl_Kof (CT := [zk_ki46]) (List.forall_mem_cons.mpr ⟨zk_ki46_k, fun _ h => absurd h List.not_mem_nil⟩) zk_ki47_b
theorem zk_ki48_k : zl_K zk_ki48 := zl_Kof (CT := [zk_ki47]) (List.forall_mem_cons.mpr ⟨zk_ki47_k, fun _ h => absurd h List.not_mem_nil⟩) zk_ki48_b
theorem zk_ki49_k : zl_K zk_ki49 := zl_Kof (CT := [zk_ki48]) (List.forall_mem_cons.mpr ⟨zk_ki48_k, fun _ h => absurd h List.not_mem_nil⟩) zk_ki49_b
theorem zk_ki50_k : zl_K zk_ki50 := zl_Kof (CT := [zk_ki49]) (List.forall_mem_cons.mpr ⟨zk_ki49_k, fun _ h => absurd h List.not_mem_nil⟩) zk_ki50_b
theorem zk_ki51_k : zl_K zk_ki51 := zl_Kof (CT := [zk_ki50]) (List.forall_mem_cons.mpr ⟨zk_ki50_k, fun _ h => absurd h List.not_mem_nil⟩) zk_ki51_b
theorem zk_ki52_k : zl_K zk_ki52 := zl_Kof (CT := [zk_ki45, zk_ki51]) (List.forall_mem_cons.mpr ⟨zk_ki45_k, List.forall_mem_cons.mpr ⟨zk_ki51_k, fun _ h => absurd h List.not_mem_nil⟩⟩) zk_ki52_b
theorem zk_ki53_k : zl_K zk_ki53 := zl_Kof (CT := [zk_ki20, zk_ki52]) (List.forall_mem_cons.mpr ⟨zk_ki20_k, List.forall_mem_cons.mpr ⟨zk_ki52_k, fun _ h => absurd h List.not_mem_nil⟩⟩) zk_ki53_b
theorem zk_ki54_k : zl_K zk_ki54 := zl_Kof (CT := [zk_ki53]) (List.forall_mem_cons.mpr ⟨zk_ki53_k, fun _ h => absurd h List.not_mem_nil⟩) zk_ki54_b
theorem zk_ki55_k : zl_K zk_ki55 := zl_Kof (CT := [zk_ki54]) (List.forall_mem_cons.mpr ⟨zk_ki54_k, fun _ h => absurd h List.not_mem_nil⟩) zk_ki55_b
theorem zk_ki56_k : zl_K zk_ki56 := zl_Kof (CT := [zk_ki55]) (List.forall_mem_cons.mpr ⟨zk_ki55_k, fun _ h => absurd h List.not_mem_nil⟩) zk_ki56_b
theorem zk_ki57_k : zl_K zk_ki57 := zl_Kof (CT := [zk_ki56]) (List.forall_mem_cons.mpr ⟨zk_ki56_k, fun _ h => absurd h List.not_mem_nil⟩) zk_ki57_b
theorem zk_ki58_k : zl_K zk_ki58 := zl_Kof (CT := [zk_ki57]) (List.forall_mem_cons.mpr ⟨zk_ki57_k, fun _ h => absurd h List.not_mem_nil⟩) zk_ki58_b
theorem zk_ki59_k : zl_K zk_ki59 := zl_Kof (CT := [zk_ki58]) (List.forall_mem_cons.mpr ⟨zk_ki58_k, fun _ h => absurd h List.not_mem_nil⟩) zk_ki59_b
theorem zk_ki60_k : zl_K zk_ki60 := zl_Kof (CT := [zk_ki53, zk_ki59]) (List.forall_mem_cons.mpr ⟨zk_ki53_k, List.forall_mem_cons.mpr ⟨zk_ki59_k, fun _ h => absurd h List.not_mem_nil⟩⟩) zk_ki60_b
theorem zk_ki61_k : zl_K zk_ki61 := zl_Kof (CT := [zk_ki20, zk_ki60]) (List.forall_mem_cons.mpr ⟨zk_ki20_k, List.forall_mem_cons.mpr ⟨zk_ki60_k, fun _ h => absurd h List.not_mem_nil⟩⟩) zk_ki61_b
theorem zk_ki62_k : zl_K zk_ki62 := zl_Kof (CT := [zk_ki61]) (List.forall_mem_cons.mpr ⟨zk_ki61_k, fun _ h => absurd h List.not_mem_nil⟩) zk_ki62_b
theorem zk_ki63_k : zl_K zk_ki63 := zl_Kof (CT := [zk_ki62]) (List.forall_mem_cons.mpr ⟨zk_ki62_k, fun _ h => absurd h List.not_mem_nil⟩) zk_ki63_b
theorem zk_ki64_k : zl_K zk_ki64 := zl_Kof (CT := [zk_ki63]) (List.forall_mem_cons.mpr ⟨zk_ki63_k, fun _ h => absurd h List.not_mem_nil⟩) zk_ki64_b
theorem zk_ki65_k : zl_K zk_ki65 := zl_Kof (CT := [zk_ki64]) (List.forall_mem_cons.mpr ⟨zk_ki64_k, fun _ h => absurd h List.not_mem_nil⟩) zk_ki65_b
theorem zk_ki66_k : zl_K zk_ki66 := zl_Kof (CT := [zk_ki65]) (List.forall_mem_cons.mpr ⟨zk_ki65_k, fun _ h => absurd h List.not_mem_nil⟩) zk_ki66_b
theorem zk_ki67_k : zl_K zk_ki67 := zl_Kof (CT := [zk_ki66]) (List.forall_mem_cons.mpr ⟨zk_ki66_k, fun _ h => absurd h List.not_mem_nil⟩) zk_ki67_b
theorem zk_ki68_k : zl_K zk_ki68 := zl_Kof (CT := [zk_ki61, zk_ki67]) (List.forall_mem_cons.mpr ⟨zk_ki61_k, List.forall_mem_cons.mpr ⟨zk_ki67_k, fun _ h => absurd h List.not_mem_nil⟩⟩) zk_ki68_b
theorem zk_ki69_k : zl_K zk_ki69 := zl_Kof (CT := [zk_ki20, zk_ki68]) (List.forall_mem_cons.mpr ⟨zk_ki20_k, List.forall_mem_cons.mpr ⟨zk_ki68_k, fun _ h => absurd h List.not_mem_nil⟩⟩) zk_ki69_b
theorem zk_ki70_k : zl_K zk_ki70 := zl_Kof (CT := [zk_ki69]) (List.forall_mem_cons.mpr ⟨zk_ki69_k, fun _ h => absurd h List.not_mem_nil⟩) zk_ki70_b
theorem zk_ki71_k : zl_K zk_ki71 := zl_Kof (CT := [zk_ki70]) (List.forall_mem_cons.mpr ⟨zk_ki70_k, fun _ h => absurd h List.not_mem_nil⟩) zk_ki71_b
theorem zk_ki72_k : zl_K zk_ki72 := zl_Kof (CT := [zk_ki71]) (List.forall_mem_cons.mpr ⟨zk_ki71_k, fun _ h => absurd h List.not_mem_nil⟩) zk_ki72_b
theorem zk_ki73_k : zl_K zk_ki73 := zl_Kof (CT := [zk_ki72]) (List.forall_mem_cons.mpr ⟨zk_ki72_k, fun _ h => absurd h List.not_mem_nil⟩) zk_ki73_b
theorem zk_ki74_k : zl_K zk_ki74 := zl_Kof (CT := [zk_ki73]) (List.forall_mem_cons.mpr ⟨zk_ki73_k, fun _ h => absurd h List.not_mem_nil⟩) zk_ki74_b
theorem zk_ki75_k : zl_K zk_ki75 := zl_Kof (CT := [zk_ki74]) (List.forall_mem_cons.mpr ⟨zk_ki74_k, fun _ h => absurd h List.not_mem_nil⟩) zk_ki75_b
theorem zk_ki76_k : zl_K zk_ki76 := zl_Kof (CT := [zk_ki75]) (List.forall_mem_cons.mpr ⟨zk_ki75_k, fun _ h => absurd h List.not_mem_nil⟩) zk_ki76_b
theorem zk_ki77_k : zl_K zk_ki77 := zl_Kof (CT := [zk_ki76]) (List.forall_mem_cons.mpr ⟨zk_ki76_k, fun _ h => absurd h List.not_mem_nil⟩) zk_ki77_b
theorem zk_kp0_k : zl_K zk_kp0 := zl_Kof (CT := []) (fun _ h => absurd h List.not_mem_nil) zk_kp0_b
theorem zk_kp1_k : zl_K zk_kp1 := zl_Kof (CT := [zk_ki9]) (List.forall_mem_cons.mpr ⟨zk_ki9_k, fun _ h => absurd h List.not_mem_nil⟩) zk_kp1_b
theorem zk_kp2_k : zl_K zk_kp2 := zl_Kof (CT := [zk_ki10, zk_ki11, zk_ki12, zk_ki13, zk_ki14, zk_ki15]) (List.forall_mem_cons.mpr ⟨zk_ki10_k, List.forall_mem_cons.mpr ⟨zk_ki11_k, List.forall_mem_cons.mpr ⟨zk_ki12_k, List.forall_mem_cons.mpr ⟨zk_ki13_k, List.forall_mem_cons.mpr ⟨zk_ki14_k, List.forall_mem_cons.mpr ⟨zk_ki15_k, fun _ h => absurd h List.not_mem_nil⟩⟩⟩⟩⟩⟩) zk_kp2_b
theorem zk_kp3_k : zl_K zk_kp3 := zl_Kof (CT := []) (fun _ h => absurd h List.not_mem_nil) zk_kp3_b
theorem zk_kp4_k : zl_K zk_kp4 := zl_Kof (CT := [zk_ki0]) (List.forall_mem_cons.mpr ⟨zk_ki0_k, fun _ h => absurd h List.not_mem_nil⟩) zk_kp4_b
theorem zk_kp5_k : zl_K zk_kp5 := zl_Kof (CT := []) (fun _ h => absurd h List.not_mem_nil) zk_kp5_b
theorem zk_kp6_k : zl_K zk_kp6 := zl_Kof (CT := []) (fun _ h => absurd h List.not_mem_nil) zk_kp6_b
theorem zk_kp7_k : zl_K zk_kp7 := zl_Kof (CT := [zk_ki6, zk_ki8]) (List.forall_mem_cons.mpr ⟨zk_ki6_k, List.forall_mem_cons.mpr ⟨zk_ki8_k, fun _ h => absurd h List.not_mem_nil⟩⟩) zk_kp7_b
theorem zk_kp8_k : zl_K zk_kp8 := zl_Kof (CT := [zk_ki5, zk_ki7, zk_ki8]) (List.forall_mem_cons.mpr ⟨zk_ki5_k, List.forall_mem_cons.mpr ⟨zk_ki7_k, List.forall_mem_cons.mpr ⟨zk_ki8_k, fun _ h => absurd h List.not_mem_nil⟩⟩⟩) zk_kp8_b
theorem zk_kp9_k : zl_K zk_kp9 := zl_Kof (CT := [zk_ki5, zk_ki7, zk_ki8]) (List.forall_mem_cons.mpr ⟨zk_ki5_k, List.forall_mem_cons.mpr ⟨zk_ki7_k, List.forall_mem_cons.mpr ⟨zk_ki8_k, fun _ h => absurd h List.not_mem_nil⟩⟩⟩) zk_kp9_b
theorem zk_kp10_k : zl_K zk_kp10 := zl_Kof (CT := [zk_ki8]) (List.forall_mem_cons.mpr ⟨zk_ki8_k, fun _ h => absurd h List.not_mem_nil⟩) zk_kp10_b
theorem zk_kp11_k : zl_K zk_kp11 := zl_Kof (CT := [zk_ki6, zk_ki8]) (List.forall_mem_cons.mpr ⟨zk_ki6_k, List.forall_mem_cons.mpr ⟨zk_ki8_k, fun _ h => absurd h List.not_mem_nil⟩⟩) zk_kp11_b
theorem zk_kp12_k : zl_K zk_kp12 := zl_Kof (CT := [zk_ki8]) (List.forall_mem_cons.mpr ⟨zk_ki8_k, fun _ h => absurd h List.not_mem_nil⟩) zk_kp12_b
theorem zk_kp13_k : zl_K zk_kp13 := zl_Kof (CT := []) (fun _ h => absurd h List.not_mem_nil) zk_kp13_b
theorem zk_kp14_k : zl_K zk_kp14 := zl_Kof (CT := []) (fun _ h => absurd h List.not_mem_nil) zk_kp14_b
theorem zk_kp15_k : zl_K zk_kp15 := zl_Kof (CT := []) (fun _ h => absurd h List.not_mem_nil) zk_kp15_b
theorem zk_kp16_k : zl_K zk_kp16 := zl_Kof (CT := []) (fun _ h => absurd h List.not_mem_nil) zk_kp16_b
theorem zk_kp17_k : zl_K zk_kp17 := zl_Kof (CT := []) (fun _ h => absurd h List.not_mem_nil) zk_kp17_b
theorem zk_kp18_k : zl_K zk_kp18 := zl_Kof (CT := []) (fun _ h => absurd h List.not_mem_nil) zk_kp18_b
theorem zk_kp19_k : zl_K zk_kp19 := zl_Kof (CT := []) (fun _ h => absurd h List.not_mem_nil) zk_kp19_b
theorem zk_kp20_k : zl_K zk_kp20 := zl_Kof (CT := [zk_ki5, zk_ki7, zk_ki8]) (List.forall_mem_cons.mpr ⟨zk_ki5_k, List.forall_mem_cons.mpr ⟨zk_ki7_k, List.forall_mem_cons.mpr ⟨zk_ki8_k, fun _ h => absurd h List.not_mem_nil⟩⟩⟩) zk_kp20_b
theorem zk_kp21_k : zl_K zk_kp21 := zl_Kof (CT := [zk_ki5, zk_ki7, zk_ki8]) (List.forall_mem_cons.mpr ⟨zk_ki5_k, List.forall_mem_cons.mpr ⟨zk_ki7_k, List.forall_mem_cons.mpr ⟨zk_ki8_k, fun _ h => absurd h List.not_mem_nil⟩⟩⟩) zk_kp21_b
theorem zk_kp22_k : zl_K zk_kp22 := zl_Kof (CT := [zk_ki5, zk_ki7, zk_ki8]) (List.forall_mem_cons.mpr ⟨zk_ki5_k, List.forall_mem_cons.mpr ⟨zk_ki7_k, List.forall_mem_cons.mpr ⟨zk_ki8_k, fun _ h => absurd h List.not_mem_nil⟩⟩⟩) zk_kp22_b
theorem zk_kp23_k : zl_K zk_kp23 := zl_Kof (CT := [zk_ki4, zk_ki5, zk_ki7, zk_ki8]) (List.forall_mem_cons.mpr ⟨zk_ki4_k, List.forall_mem_cons.mpr ⟨zk_ki5_k, List.forall_mem_cons.mpr ⟨zk_ki7_k, List.forall_mem_cons.mpr ⟨zk_ki8_k, fun _ h => absurd h List.not_mem_nil⟩⟩⟩⟩) zk_kp23_b
theorem zk_kp24_k : zl_K zk_kp24 := zl_Kof (CT := []) (fun _ h => absurd h List.not_mem_nil) zk_kp24_b
theorem zk_kp25_k : zl_K zk_kp25 := zl_Kof (CT := [zk_ki5, zk_ki7, zk_ki8]) (List.forall_mem_cons.mpr ⟨zk_ki5_k, List.forall_mem_cons.mpr ⟨zk_ki7_k, List.forall_mem_cons.mpr ⟨zk_ki8_k, fun _ h => absurd h List.not_mem_nil⟩⟩⟩) zk_kp25_b
theorem zk_kp26_k : zl_K zk_kp26 := zl_Kof (CT := [zk_ki1, zk_ki3]) (List.forall_mem_cons.mpr ⟨zk_ki1_k, List.forall_mem_cons.mpr ⟨zk_ki3_k, fun _ h => absurd h List.not_mem_nil⟩⟩) zk_kp26_b
theorem zk_kp27_k : zl_K zk_kp27 := zl_Kof (CT := []) (fun _ h => absurd h List.not_mem_nil) zk_kp27_b
theorem zk_kp28_k : zl_K zk_kp28 := zl_Kof (CT := []) (fun _ h => absurd h List.not_mem_nil) zk_kp28_b
theorem zk_kp29_k : zl_K zk_kp29 := zl_Kof (CT := []) (fun _ h => absurd h List.not_mem_nil) zk_kp29_b
theorem zk_kp30_k : zl_K zk_kp30 := zl_Kof (CT := []) (fun _ h => absurd h List.not_mem_nil) zk_kp30_b
theorem zk_kp31_k : zl_K zk_kp31 := zl_Kof (CT := []) (fun _ h => absurd h List.not_mem_nil) zk_kp31_b
theorem zk_kp32_k : zl_K zk_kp32 := zl_Kof (CT := [zk_ki0]) (List.forall_mem_cons.mpr ⟨zk_ki0_k, fun _ h => absurd h List.not_mem_nil⟩) zk_kp32_b
theorem zk_kp33_k : zl_K zk_kp33 := zl_Kof (CT := [zk_ki0]) (List.forall_mem_cons.mpr ⟨zk_ki0_k, fun _ h => absurd h List.not_mem_nil⟩) zk_kp33_b
theorem zk_kp35_k : zl_K zk_kp35 := zl_Kof (CT := [zk_ki16, zk_ki17, zk_ki18, zk_ki19]) (List.forall_mem_cons.mpr ⟨zk_ki16_k, List.forall_mem_cons.mpr ⟨zk_ki17_k, List.forall_mem_cons.mpr ⟨zk_ki18_k, List.forall_mem_cons.mpr ⟨zk_ki19_k, fun _ h => absurd h List.not_mem_nil⟩⟩⟩⟩) zk_kp35_b
theorem zk_kp36_k : zl_K zk_kp36 := zl_Kof (CT := []) (fun _ h => absurd h List.not_mem_nil) zk_kp36_b
theorem zk_kp39_k : zl_K zk_kp39 := zl_Kof (CT := []) (fun _ h => absurd h List.not_mem_nil) zk_kp39_b
theorem zk_kp40_k : zl_K zk_kp40 := zl_Kof (CT := []) (fun _ h => absurd h List.not_mem_nil) zk_kp40_b
theorem zk_kp42_k : zl_K zk_kp42 := zl_Kof (CT := []) (fun _ h => absurd h List.not_mem_nil) zk_kp42_b
theorem zk_kp43_k : zl_K zk_kp43 := zl_Kof (CT := []) (fun _ h => absurd h List.not_mem_nil) zk_kp43_b
theorem zk_kp44_k : zl_K zk_kp44 := zl_Kof (CT := [zk_ki77]) (List.forall_mem_cons.mpr ⟨zk_ki77_k, fun _ h => absurd h List.not_mem_nil⟩) zk_kp44_b
theorem zk_kr0_k : zl_K zk_kr0 := zl_Kof (CT := []) (fun _ h => absurd h List.not_mem_nil) zk_kr0_b
theorem zk_kr1_k : zl_K zk_kr1 := zl_Kof (CT := [zk_kr0]) (List.forall_mem_cons.mpr ⟨zk_kr0_k, fun _ h => absurd h List.not_mem_nil⟩) zk_kr1_b
theorem zk_kr2_k : zl_K zk_kr2 := zl_Kof (CT := []) (fun _ h => absurd h List.not_mem_nil) zk_kr2_b
theorem zk_kr3_k : zl_K zk_kr3 := zl_Kof (CT := []) (fun _ h => absurd h List.not_mem_nil) zk_kr3_b
theorem zk_kr4_k : zl_K zk_kr4 := zl_Kof (CT := []) (fun _ h => absurd h List.not_mem_nil) zk_kr4_b
theorem zk_kr5_k : zl_K zk_kr5 := zl_Kof (CT := []) (fun _ h => absurd h List.not_mem_nil) zk_kr5_b
theorem zk_kr6_k : zl_K zk_kr6 := zl_Kof (CT := [zk_kr5]) (List.forall_mem_cons.mpr ⟨zk_kr5_k, fun _ h => absurd h List.not_mem_nil⟩) zk_kr6_b
theorem zk_kr7_k : zl_K zk_kr7 := zl_Kof (CT := [zk_kr0, zk_kr6]) (List.forall_mem_cons.mpr ⟨zk_kr0_k, List.forall_mem_cons.mpr ⟨zk_kr6_k, fun _ h => absurd h List.not_mem_nil⟩⟩) zk_kr7_b
theorem zk_kr8_k : zl_K zk_kr8 := zl_Kof (CT := [zk_kr1, zk_kr7]) (List.forall_mem_cons.mpr ⟨zk_kr1_k, List.forall_mem_cons.mpr ⟨zk_kr7_k, fun _ h => absurd h List.not_mem_nil⟩⟩) zk_kr8_b
theorem zk_kr9_k : zl_K zk_kr9 := zl_Kof (CT := [zk_kr8]) (List.forall_mem_cons.mpr ⟨zk_kr8_k, fun _ h => absurd h List.not_mem_nil⟩) zk_kr9_b
theorem zk_kr10_k : zl_K zk_kr10 := zl_Kof (CT := [zk_kr8]) (List.forall_mem_cons.mpr ⟨zk_kr8_k, fun _ h => absurd h List.not_mem_nil⟩) zk_kr10_b
theorem zk_kr11_k : zl_K zk_kr11 := zl_Kof (CT := [zk_kr1, zk_kr8]) (List.forall_mem_cons.mpr ⟨zk_kr1_k, List.forall_mem_cons.mpr ⟨zk_kr8_k, fun _ h => absurd h List.not_mem_nil⟩⟩) zk_kr11_b
theorem zk_kr12_k : zl_K zk_kr12 := zl_Kof (CT := [zk_kr8]) (List.forall_mem_cons.mpr ⟨zk_kr8_k, fun _ h => absurd h List.not_mem_nil⟩) zk_kr12_b
theorem zk_kr13_k : zl_K zk_kr13 := zl_Kof (CT := [zk_kr8]) (List.forall_mem_cons.mpr ⟨zk_kr8_k, fun _ h => absurd h List.not_mem_nil⟩) zk_kr13_b
theorem zk_kr14_k : zl_K zk_kr14 := zl_Kof (CT := [zk_kr8]) (List.forall_mem_cons.mpr ⟨zk_kr8_k, fun _ h => absurd h List.not_mem_nil⟩) zk_kr14_b
theorem zk_kr15_k : zl_K zk_kr15 := zl_Kof (CT := [zk_kr9]) (List.forall_mem_cons.mpr ⟨zk_kr9_k, fun _ h => absurd h List.not_mem_nil⟩) zk_kr15_b
theorem zk_kr16_k : zl_K zk_kr16 := zl_Kof (CT := [zk_kr9]) (List.forall_mem_cons.mpr ⟨zk_kr9_k, fun _ h => absurd h List.not_mem_nil⟩) zk_kr16_b
theorem zk_kr17_k : zl_K zk_kr17 := zl_Kof (CT := [zk_kr9]) (List.forall_mem_cons.mpr ⟨zk_kr9_k, fun _ h => absurd h List.not_mem_nil⟩) zk_kr17_b
theorem zk_kr18_k : zl_K zk_kr18 := zl_Kof (CT := [zk_kr9]) (List.forall_mem_cons.mpr ⟨zk_kr9_k, fun _ h => absurd h List.not_mem_nil⟩) zk_kr18_b
theorem zk_kr19_k : zl_K zk_kr19 := zl_Kof (CT := [zk_kr8]) (List.forall_mem_cons.mpr ⟨zk_kr8_k, fun _ h => absurd h List.not_mem_nil⟩) zk_kr19_b
theorem zk_kr20_k : zl_K zk_kr20 := zl_Kof (CT := [zk_kr8]) (List.forall_mem_cons.mpr ⟨zk_kr8_k, fun _ h => absurd h List.not_mem_nil⟩) zk_kr20_b
theorem zk_kr21_k : zl_K zk_kr21 := zl_Kof (CT := []) (fun _ h => absurd h List.not_mem_nil) zk_kr21_b
theorem zk_kr22_k : zl_K zk_kr22 := zl_Kof (CT := []) (fun _ h => absurd h List.not_mem_nil) zk_kr22_b
theorem zk_kr23_k : zl_K zk_kr23 := zl_Kof (CT := []) (fun _ h => absurd h List.not_mem_nil) zk_kr23_b
theorem zk_kr24_k : zl_K zk_kr24 := zl_Kof (CT := []) (fun _ h => absurd h List.not_mem_nil) zk_kr24_b
theorem zk_kr25_k : zl_K zk_kr25 := zl_Kof (CT := []) (fun _ h => absurd h List.not_mem_nil) zk_kr25_b
theorem zk_kr26_k : zl_K zk_kr26 := zl_Kof (CT := []) (fun _ h => absurd h List.not_mem_nil) zk_kr26_b
theorem zk_kr27_k : zl_K zk_kr27 := zl_Kof (CT := []) (fun _ h => absurd h List.not_mem_nil) zk_kr27_b
theorem zk_kr28_k : zl_K zk_kr28 := zl_Kof (CT := []) (fun _ h => absurd h List.not_mem_nil) zk_kr28_b
theorem zk_kr29_k : zl_K zk_kr29 := zl_Kof (CT := []) (fun _ h => absurd h List.not_mem_nil) zk_kr29_b
theorem zk_kr30_k : zl_K zk_kr30 := zl_Kof (CT := []) (fun _ h => absurd h List.not_mem_nil) zk_kr30_b
theorem zk_kr31_k : zl_K zk_kr31 := zl_Kof (CT := []) (fun _ h => absurd h List.not_mem_nil) zk_kr31_b
theorem zk_kr32_k : zl_K zk_kr32 := zl_Kof (CT := []) (fun _ h => absurd h List.not_mem_nil) zk_kr32_b
theorem zk_kr33_k : zl_K zk_kr33 := zl_Kof (CT := []) (fun _ h => absurd h List.not_mem_nil) zk_kr33_b
theorem zk_kr34_k : zl_K zk_kr34 := zl_Kof (CT := []) (fun _ h => absurd h List.not_mem_nil) zk_kr34_b
theorem zk_kr35_k : zl_K zk_kr35 := zl_Kof (CT := []) (fun _ h => absurd h List.not_mem_nil) zk_kr35_b
theorem zk_kr36_k : zl_K zk_kr36 := zl_Kof (CT := []) (fun _ h => absurd h List.not_mem_nil) zk_kr36_b
theorem zk_kr37_k : zl_K zk_kr37 := zl_Kof (CT := []) (fun _ h => absurd h List.not_mem_nil) zk_kr37_b
theorem zk_kr38_k : zl_K zk_kr38 := zl_Kof (CT := []) (fun _ h => absurd h List.not_mem_nil) zk_kr38_b
theorem zk_kr40_k : zl_K zk_kr40 := zl_Kof (CT := []) (fun _ h => absurd h List.not_mem_nil) zk_kr40_b
theorem zk_kr41_k : zl_K zk_kr41 := zl_Kof (CT := []) (fun _ h => absurd h List.not_mem_nil) zk_kr41_b
theorem zk_kr44_k : zl_K zk_kr44 := zl_Kof (CT := []) (fun _ h => absurd h List.not_mem_nil) zk_kr44_b
theorem zk_kr45_k : zl_K zk_kr45 := zl_Kof (CT := []) (fun _ h => absurd h List.not_mem_nil) zk_kr45_b
theorem zk_kr47_k : zl_K zk_kr47 := zl_Kof (CT := []) (fun _ h => absurd h List.not_mem_nil) zk_kr47_b
theorem zk_kr48_k : zl_K zk_kr48 := zl_Kof (CT := []) (fun _ h => absurd h List.not_mem_nil) zk_kr48_b
theorem zk_kr49_k : zl_K zk_kr49 := zl_Kof (CT := [zk_kr1]) (List.forall_mem_cons.mpr ⟨zk_kr1_k, fun _ h => absurd h List.not_mem_nil⟩) zk_kr49_b
theorem zk_kr50_k : zl_K zk_kr50 := zl_Kof (CT := [zk_kr1, zk_kr49]) (List.forall_mem_cons.mpr ⟨zk_kr1_k, List.forall_mem_cons.mpr ⟨zk_kr49_k, fun _ h => absurd h List.not_mem_nil⟩⟩) zk_kr50_b
theorem zk_kr51_k : zl_K zk_kr51 := zl_Kof (CT := [zk_kr1, zk_kr50]) (List.forall_mem_cons.mpr ⟨zk_kr1_k, List.forall_mem_cons.mpr ⟨zk_kr50_k, fun _ h => absurd h List.not_mem_nil⟩⟩) zk_kr51_b
theorem zk_kr52_k : zl_K zk_kr52 := zl_Kof (CT := [zk_kr1, zk_kr51]) (List.forall_mem_cons.mpr ⟨zk_kr1_k, List.forall_mem_cons.mpr ⟨zk_kr51_k, fun _ h => absurd h List.not_mem_nil⟩⟩) zk_kr52_b
theorem zk_kr53_k : zl_K zk_kr53 := zl_Kof (CT := [zk_kr1, zk_kr52]) (List.forall_mem_cons.mpr ⟨zk_kr1_k, List.forall_mem_cons.mpr ⟨zk_kr52_k, fun _ h => absurd h List.not_mem_nil⟩⟩) zk_kr53_b
theorem zk_kr54_k : zl_K zk_kr54 := zl_Kof (CT := [zk_kr1, zk_kr53]) (List.forall_mem_cons.mpr ⟨zk_kr1_k, List.forall_mem_cons.mpr ⟨zk_kr53_k, fun _ h => absurd h List.not_mem_nil⟩⟩) zk_kr54_b
theorem zk_kr55_k : zl_K zk_kr55 := zl_Kof (CT := [zk_kr1, zk_kr54]) (List.forall_mem_cons.mpr ⟨zk_kr1_k, List.forall_mem_cons.mpr ⟨zk_kr54_k, fun _ h => absurd h List.not_mem_nil⟩⟩) zk_kr55_b
theorem zk_kr56_k : zl_K zk_kr56 := zl_Kof (CT := [zk_kr55]) (List.forall_mem_cons.mpr ⟨zk_kr55_k, fun _ h => absurd h List.not_mem_nil⟩) zk_kr56_b
theorem zk_kr57_k : zl_K zk_kr57 := zl_Kof (CT := [zk_kr0]) (List.forall_mem_cons.mpr ⟨zk_kr0_k, fun _ h => absurd h List.not_mem_nil⟩) zk_kr57_b
theorem zk_kr58_k : zl_K zk_kr58 := zl_Kof (CT := [zk_kr57]) (List.forall_mem_cons.mpr ⟨zk_kr57_k, fun _ h => absurd h List.not_mem_nil⟩) zk_kr58_b
theorem zk_kr59_k : zl_K zk_kr59 := zl_Kof (CT := [zk_kr57, zk_kr58]) (List.forall_mem_cons.mpr ⟨zk_kr57_k, List.forall_mem_cons.mpr ⟨zk_kr58_k, fun _ h => absurd h List.not_mem_nil⟩⟩) zk_kr59_b
theorem zk_kr60_k : zl_K zk_kr60 := zl_Kof (CT := []) (fun _ h => absurd h List.not_mem_nil) zk_kr60_b
theorem zk_kr61_k : zl_K zk_kr61 := zl_Kof (CT := [zk_kr60]) (List.forall_mem_cons.mpr ⟨zk_kr60_k, fun _ h => absurd h List.not_mem_nil⟩) zk_kr61_b
theorem zk_kr62_k : zl_K zk_kr62 := zl_Kof (CT := [zk_kr61]) (List.forall_mem_cons.mpr ⟨zk_kr61_k, fun _ h => absurd h List.not_mem_nil⟩) zk_kr62_b
theorem zk_kr63_k : zl_K zk_kr63 := zl_Kof (CT := [zk_kr62]) (List.forall_mem_cons.mpr ⟨zk_kr62_k, fun _ h => absurd h List.not_mem_nil⟩) zk_kr63_b
theorem zk_kr64_k : zl_K zk_kr64 := zl_Kof (CT := [zk_kr63]) (List.forall_mem_cons.mpr ⟨zk_kr63_k, fun _ h => absurd h List.not_mem_nil⟩) zk_kr64_b
theorem zk_kr65_k : zl_K zk_kr65 := zl_Kof (CT := [zk_kr64]) (List.forall_mem_cons.mpr ⟨zk_kr64_k, fun _ h => absurd h List.not_mem_nil⟩) zk_kr65_b
theorem zk_kr66_k : zl_K zk_kr66 := zl_Kof (CT := [zk_kr65]) (List.forall_mem_cons.mpr ⟨zk_kr65_k, fun _ h => absurd h List.not_mem_nil⟩) zk_kr66_b
theorem zk_kr67_k : zl_K zk_kr67 := zl_Kof (CT := [zk_kr60, zk_kr61, zk_kr66]) (List.forall_mem_cons.mpr ⟨zk_kr60_k, List.forall_mem_cons.mpr ⟨zk_kr61_k, List.forall_mem_cons.mpr ⟨zk_kr66_k, fun _ h => absurd h List.not_mem_nil⟩⟩⟩) zk_kr67_b
theorem zk_kr68_k : zl_K zk_kr68 := zl_Kof (CT := [zk_kr67]) (List.forall_mem_cons.mpr ⟨zk_kr67_k, fun _ h => absurd h List.not_mem_nil⟩) zk_kr68_b
theorem zk_kr69_k : zl_K zk_kr69 := zl_Kof (CT := [zk_kr68]) (List.forall_mem_cons.mpr ⟨zk_kr68_k, fun _ h => absurd h List.not_mem_nil⟩) zk_kr69_b
theorem zk_kr70_k : zl_K zk_kr70 := zl_Kof (CT := [zk_kr69]) (List.forall_mem_cons.mpr ⟨zk_kr69_k, fun _ h => absurd h List.not_mem_nil⟩) zk_kr70_b
theorem zk_kr71_k : zl_K zk_kr71 := zl_Kof (CT := [zk_kr70]) (List.forall_mem_cons.mpr ⟨zk_kr70_k, fun _ h => absurd h List.not_mem_nil⟩) zk_kr71_b
theorem zk_kr72_k : zl_K zk_kr72 := zl_Kof (CT := [zk_kr71]) (List.forall_mem_cons.mpr ⟨zk_kr71_k, fun _ h => absurd h List.not_mem_nil⟩) zk_kr72_b
theorem zk_kr73_k : zl_K zk_kr73 := zl_Kof (CT := [zk_kr60, zk_kr67, zk_kr72]) (List.forall_mem_cons.mpr ⟨zk_kr60_k, List.forall_mem_cons.mpr ⟨zk_kr67_k, List.forall_mem_cons.mpr ⟨zk_kr72_k, fun _ h => absurd h List.not_mem_nil⟩⟩⟩) zk_kr73_b
theorem zk_kr74_k : zl_K zk_kr74 := zl_Kof (CT := [zk_kr73]) (List.forall_mem_cons.mpr ⟨zk_kr73_k, fun _ h => absurd h List.not_mem_nil⟩) zk_kr74_b
theorem zk_kr75_k : zl_K zk_kr75 := zl_Kof (CT := [zk_kr74]) (List.forall_mem_cons.mpr ⟨zk_kr74_k, fun _ h => absurd h List.not_mem_nil⟩) zk_kr75_b
theorem zk_kr76_k : zl_K zk_kr76 := zl_Kof (CT := [zk_kr75]) (List.forall_mem_cons.mpr ⟨zk_kr75_k, fun _ h => absurd h List.not_mem_nil⟩) zk_kr76_b
theorem zk_kr77_k : zl_K zk_kr77 := zl_Kof (CT := [zk_kr76]) (List.forall_mem_cons.mpr ⟨zk_kr76_k, fun _ h => absurd h List.not_mem_nil⟩) zk_kr77_b
theorem zk_kr78_k : zl_K zk_kr78 := zl_Kof (CT := [zk_kr77]) (List.forall_mem_cons.mpr ⟨zk_kr77_k, fun _ h => absurd h List.not_mem_nil⟩) zk_kr78_b
theorem zk_kr79_k : zl_K zk_kr79 := zl_Kof (CT := [zk_kr60, zk_kr73, zk_kr78]) (List.forall_mem_cons.mpr ⟨zk_kr60_k, List.forall_mem_cons.mpr ⟨zk_kr73_k, List.forall_mem_cons.mpr ⟨zk_kr78_k, fun _ h => absurd h List.not_mem_nil⟩⟩⟩) zk_kr79_b
theorem zk_kr80_k : zl_K zk_kr80 := zl_Kof (CT := [zk_kr79]) (List.forall_mem_cons.mpr ⟨zk_kr79_k, fun _ h => absurd h List.not_mem_nil⟩) zk_kr80_b
theorem zk_kr81_k : zl_K zk_kr81 := zl_Kof (CT := [zk_kr80]) (List.forall_mem_cons.mpr ⟨zk_kr80_k, fun _ h => absurd h List.not_mem_nil⟩) zk_kr81_b
theorem zk_kr82_k : zl_K zk_kr82 := zl_Kof (CT := [zk_kr81]) (List.forall_mem_cons.mpr ⟨zk_kr81_k, fun _ h => absurd h List.not_mem_nil⟩) zk_kr82_b
theorem zk_kr83_k : zl_K zk_kr83 := zl_Kof (CT := [zk_kr82]) (List.forall_mem_cons.mpr ⟨zk_kr82_k, fun _ h => absurd h List.not_mem_nil⟩) zk_kr83_b
theorem zk_kr84_k : zl_K zk_kr84 := zl_Kof (CT := [zk_kr83]) (List.forall_mem_cons.mpr ⟨zk_kr83_k, fun _ h => absurd h List.not_mem_nil⟩) zk_kr84_b
theorem zk_kr85_k : zl_K zk_kr85 := zl_Kof (CT := [zk_kr60, zk_kr79, zk_kr84]) (List.forall_mem_cons.mpr ⟨zk_kr60_k, List.forall_mem_cons.mpr ⟨zk_kr79_k, List.forall_mem_cons.mpr ⟨zk_kr84_k, fun _ h => absurd h List.not_mem_nil⟩⟩⟩) zk_kr85_b
theorem zk_kr86_k : zl_K zk_kr86 := zl_Kof (CT := [zk_kr85]) (List.forall_mem_cons.mpr ⟨zk_kr85_k, fun _ h => absurd h List.not_mem_nil⟩) zk_kr86_b
theorem zk_kr87_k : zl_K zk_kr87 := zl_Kof (CT := [zk_kr86]) (List.forall_mem_cons.mpr ⟨zk_kr86_k, fun _ h => absurd h List.not_mem_nil⟩) zk_kr87_b
theorem zk_kr88_k : zl_K zk_kr88 := zl_Kof (CT := [zk_kr87]) (List.forall_mem_cons.mpr ⟨zk_kr87_k, fun _ h => absurd h List.not_mem_nil⟩) zk_kr88_b
theorem zk_kr89_k : zl_K zk_kr89 := zl_Kof (CT := [zk_kr88]) (List.forall_mem_cons.mpr ⟨zk_kr88_k, fun _ h => absurd h List.not_mem_nil⟩) zk_kr89_b
theorem zk_kr90_k : zl_K zk_kr90 := zl_Kof (CT := [zk_kr89]) (List.forall_mem_cons.mpr ⟨zk_kr89_k, fun _ h => absurd h List.not_mem_nil⟩) zk_kr90_b
theorem zk_kr91_k : zl_K zk_kr91 := zl_Kof (CT := [zk_kr60, zk_kr85, zk_kr90]) (List.forall_mem_cons.mpr ⟨zk_kr60_k, List.forall_mem_cons.mpr ⟨zk_kr85_k, List.forall_mem_cons.mpr ⟨zk_kr90_k, fun _ h => absurd h List.not_mem_nil⟩⟩⟩) zk_kr91_b
theorem zk_kr92_k : zl_K zk_kr92 := zl_Kof (CT := [zk_kr91]) (List.forall_mem_cons.mpr ⟨zk_kr91_k, fun _ h => absurd h List.not_mem_nil⟩) zk_kr92_b
theorem zk_kr93_k : zl_K zk_kr93 := zl_Kof (CT := [zk_kr92]) (List.forall_mem_cons.mpr ⟨zk_kr92_k, fun _ h => absurd h List.not_mem_nil⟩) zk_kr93_b
theorem zk_kr94_k : zl_K zk_kr94 := zl_Kof (CT := [zk_kr93]) (List.forall_mem_cons.mpr ⟨zk_kr93_k, fun _ h => absurd h List.not_mem_nil⟩) zk_kr94_b
theorem zk_kr95_k : zl_K zk_kr95 := zl_Kof (CT := [zk_kr94]) (List.forall_mem_cons.mpr ⟨zk_kr94_k, fun _ h => absurd h List.not_mem_nil⟩) zk_kr95_b
theorem zk_kr96_k : zl_K zk_kr96 := zl_Kof (CT := [zk_kr95]) (List.forall_mem_cons.mpr ⟨zk_kr95_k, fun _ h => absurd h List.not_mem_nil⟩) zk_kr96_b
theorem zk_kr97_k : zl_K zk_kr97 := zl_Kof (CT := [zk_kr60, zk_kr91, zk_kr96]) (List.forall_mem_cons.mpr ⟨zk_kr60_k, List.forall_mem_cons.mpr ⟨zk_kr91_k, List.forall_mem_cons.mpr ⟨zk_kr96_k, fun _ h => absurd h List.not_mem_nil⟩⟩⟩) zk_kr97_b
theorem zk_kr98_k : zl_K zk_kr98 := zl_Kof (CT := [zk_kr97]) (List.forall_mem_cons.mpr ⟨zk_kr97_k, fun _ h => absurd h List.not_mem_nil⟩) zk_kr98_b
theorem zk_kr99_k : zl_K zk_kr99 := zl_Kof (CT := [zk_kr98]) (List.forall_mem_cons.mpr ⟨zk_kr98_k, fun _ h => absurd h List.not_mem_nil⟩) zk_kr99_b
theorem zk_kr100_k : zl_K zk_kr100 := zl_Kof (CT := [zk_kr99]) (List.forall_mem_cons.mpr ⟨zk_kr99_k, fun _ h => absurd h List.not_mem_nil⟩) zk_kr100_b
theorem zk_kr101_k : zl_K zk_kr101 := zl_Kof (CT := [zk_kr100]) (List.forall_mem_cons.mpr ⟨zk_kr100_k, fun _ h => absurd h List.not_mem_nil⟩) zk_kr101_b
theorem zk_kr102_k : zl_K zk_kr102 := zl_Kof (CT := [zk_kr101]) (List.forall_mem_cons.mpr ⟨zk_kr101_k, fun _ h => absurd h List.not_mem_nil⟩) zk_kr102_b
theorem zk_kr103_k : zl_K zk_kr103 := zl_Kof (CT := [zk_kr102]) (List.forall_mem_cons.mpr ⟨zk_kr102_k, fun _ h => absurd h List.not_mem_nil⟩) zk_kr103_b
theorem zk_kr104_k : zl_K zk_kr104 := zl_Kof (CT := [zk_kr103]) (List.forall_mem_cons.mpr ⟨zk_kr103_k, fun _ h => absurd h List.not_mem_nil⟩) zk_kr104_b
theorem zk_kr105_k : zl_K zk_kr105 := zl_Kof (CT := [zk_kr104]) (List.forall_mem_cons.mpr ⟨zk_kr104_k, fun _ h => absurd h List.not_mem_nil⟩) zk_kr105_b
theorem zl_CT : ∀ K ∈ zk_CT, zl_K K := List.forall_mem_cons.mpr ⟨zk_kp0_k, List.forall_mem_cons.mpr ⟨zk_kp1_k, List.forall_mem_cons.mpr ⟨zk_kp2_k, List.forall_mem_cons.mpr ⟨zk_kp3_k, List.forall_mem_cons.mpr ⟨zk_kp4_k, List.forall_mem_cons.mpr ⟨zk_kp5_k, List.forall_mem_cons.mpr ⟨zk_kp6_k, List.forall_mem_cons.mpr ⟨zk_kp7_k, List.forall_mem_cons.mpr ⟨zk_kp8_k, List.forall_mem_cons.mpr ⟨zk_kp9_k, List.forall_mem_cons.mpr ⟨zk_kp10_k, List.forall_mem_cons.mpr ⟨zk_kp11_k, List.forall_mem_cons.mpr ⟨zk_kp12_k, List.forall_mem_cons.mpr ⟨zk_kp13_k, List.forall_mem_cons.mpr ⟨zk_kp14_k, List.forall_mem_cons.mpr ⟨zk_kp15_k, List.forall_mem_cons.mpr ⟨zk_kp16_k, List.forall_mem_cons.mpr ⟨zk_kp17_k, List.forall_mem_cons.mpr ⟨zk_kp18_k, List.forall_mem_cons.mpr ⟨zk_kp19_k, List.forall_mem_cons.mpr ⟨zk_kp20_k, List.forall_mem_cons.mpr ⟨zk_kp21_k, List.forall_mem_cons.mpr ⟨zk_kp22_k, List.forall_mem_cons.mpr ⟨zk_kp23_k, List.forall_mem_cons.mpr ⟨zk_kp24_k, List.forall_mem_cons.mpr ⟨zk_kp25_k, List.forall_mem_cons.mpr ⟨zk_kp26_k, List.forall_mem_cons.mpr ⟨zk_kp27_k, List.forall_mem_cons.mpr ⟨zk_kp28_k, List.forall_mem_cons.mpr ⟨zk_kp29_k, List.forall_mem_cons.mpr ⟨zk_kp30_k, List.forall_mem_cons.mpr ⟨zk_kp31_k, List.forall_mem_cons.mpr ⟨zk_kp32_k, List.forall_mem_cons.mpr ⟨zk_kp33_k, List.forall_mem_cons.mpr ⟨zk_kp35_k, List.forall_mem_cons.mpr ⟨zk_kp36_k, List.forall_mem_cons.mpr ⟨zk_kp39_k, List.forall_mem_cons.mpr ⟨zk_kp40_k, List.forall_mem_cons.mpr ⟨zk_kp42_k, List.forall_mem_cons.mpr ⟨zk_kp43_k, List.forall_mem_cons.mpr ⟨zk_kp44_k, List.forall_mem_cons.mpr ⟨zk_kr2_k, List.forall_mem_cons.mpr ⟨zk_kr3_k, List.forall_mem_cons.mpr ⟨zk_kr4_k, List.forall_mem_cons.mpr ⟨zk_kr10_k, List.forall_mem_cons.mpr ⟨zk_kr11_k, List.forall_mem_cons.mpr ⟨zk_kr12_k, List.forall_mem_cons.mpr ⟨zk_kr13_k, List.forall_mem_cons.mpr ⟨zk_kr14_k, List.forall_mem_cons.mpr ⟨zk_kr15_k, List.forall_mem_cons.mpr ⟨zk_kr16_k, List.forall_mem_cons.mpr ⟨zk_kr17_k, List.forall_mem_cons.mpr ⟨zk_kr18_k, List.forall_mem_cons.mpr ⟨zk_kr19_k, List.forall_mem_cons.mpr ⟨zk_kr20_k, List.forall_mem_cons.mpr ⟨zk_kr21_k, List.forall_mem_cons.mpr ⟨zk_kr22_k, List.forall_mem_cons.mpr ⟨zk_kr23_k, List.forall_mem_cons.mpr ⟨zk_kr24_k, List.forall_mem_cons.mpr ⟨zk_kr25_k, List.forall_mem_cons.mpr ⟨zk_kr26_k, List.forall_mem_cons.mpr ⟨zk_kr27_k, List.forall_mem_cons.mpr ⟨zk_kr28_k, List.forall_mem_cons.mpr ⟨zk_kr29_k, List.forall_mem_cons.mpr ⟨zk_kr30_k, List.forall_mem_cons.mpr ⟨zk_kr31_k, List.forall_mem_cons.mpr ⟨zk_kr32_k, List.forall_mem_cons.mpr ⟨zk_kr33_k, List.forall_mem_cons.mpr ⟨zk_kr34_k, List.forall_mem_cons.mpr ⟨zk_kr35_k, List.forall_mem_cons.mpr ⟨zk_kr36_k, List.forall_mem_cons.mpr ⟨zk_kr37_k, List.forall_mem_cons.mpr ⟨zk_kr38_k, List.forall_mem_cons.mpr ⟨zk_kr40_k, List.forall_mem_cons.mpr ⟨zk_kr41_k, List.forall_mem_cons.mpr ⟨zk_kr44_k, List.forall_mem_cons.mpr ⟨zk_kr45_k, List.forall_mem_cons.mpr ⟨zk_kr47_k, List.forall_mem_cons.mpr ⟨zk_kr48_k, List.forall_mem_cons.mpr ⟨zk_kr56_k, List.forall_mem_cons.mpr ⟨zk_kr59_k, List.forall_mem_cons.mpr ⟨zk_kr105_k, fun _ h => absurd h List.not_mem_nil⟩⟩⟩⟩⟩⟩⟩⟩⟩⟩⟩⟩⟩⟩⟩⟩⟩⟩⟩⟩⟩⟩⟩⟩⟩⟩⟩⟩⟩⟩⟩⟩⟩⟩⟩⟩⟩⟩⟩⟩⟩⟩⟩⟩⟩⟩⟩⟩⟩⟩⟩⟩⟩⟩⟩⟩⟩⟩⟩⟩⟩⟩⟩⟩⟩⟩⟩⟩⟩⟩⟩⟩⟩⟩⟩⟩⟩⟩⟩⟩⟩⟩
