set_option maxRecDepth 100000 in
theorem okM_209 : okM 209 = true := by decide +kernel
theorem okL113_at {pc : Nat} : okP 113 pc = true := by
  by_cases h : (J 113).1 ≤ pc
  · exact okP_ge h
  · have h1 : (J 113).1 = 493 := by decide +kernel
    have h2 : pc / 64 < 8 := by omega
    have h3 : pc % 64 < 64 := Nat.mod_lt _ (by omega)
    have e : pc = 64 * (pc / 64) + pc % 64 := (Nat.div_add_mod pc 64).symm
    have key : ∀ {k : Nat}, k = pc / 64 → (List.range 64).all (fun i => okP 113 (64 * k + i)) = true → okP 113 pc = true := by
      intro k hk h
      have := List.all_eq_true.mp h (pc % 64) (List.mem_range.mpr h3)
      rw [hk, ← e] at this
      exact this
    obtain ⟨k, hk⟩ : ∃ k, k = pc / 64 := ⟨_, rfl⟩
    rw [← hk] at h2
    match k, h2, hk with
    | 0, _, hk => exact key hk okL113_0
    | 1, _, hk => exact key hk okL113_1
    | 2, _, hk => exact key hk okL113_2
    | 3, _, hk => exact key hk okL113_3
    | 4, _, hk => exact key hk okL113_4
    | 5, _, hk => exact key hk okL113_5
    | 6, _, hk => exact key hk okL113_6
    | 7, _, hk => exact key hk okL113_7
    | k + 8, h2, _ => exact absurd h2 (by omega)
theorem okL118_at {pc : Nat} : okP 118 pc = true := by
  by_cases h : (J 118).1 ≤ pc
  · exact okP_ge h
  · have h1 : (J 118).1 = 779 := by decide +kernel
    have h2 : pc / 64 < 13 := by omega
    have h3 : pc % 64 < 64 := Nat.mod_lt _ (by omega)
    have e : pc = 64 * (pc / 64) + pc % 64 := (Nat.div_add_mod pc 64).symm
    have key : ∀ {k : Nat}, k = pc / 64 → (List.range 64).all (fun i => okP 118 (64 * k + i)) = true → okP 118 pc = true := by
      intro k hk h
      have := List.all_eq_true.mp h (pc % 64) (List.mem_range.mpr h3)
      rw [hk, ← e] at this
      exact this
    obtain ⟨k, hk⟩ : ∃ k, k = pc / 64 := ⟨_, rfl⟩
    rw [← hk] at h2
    match k, h2, hk with
    | 0, _, hk => exact key hk okL118_0
    | 1, _, hk => exact key hk okL118_1
    | 2, _, hk => exact key hk okL118_2
    | 3, _, hk => exact key hk okL118_3
    | 4, _, hk => exact key hk okL118_4
    | 5, _, hk => exact key hk okL118_5
    | 6, _, hk => exact key hk okL118_6
    | 7, _, hk => exact key hk okL118_7
    | 8, _, hk => exact key hk okL118_8
    | 9, _, hk => exact key hk okL118_9
    | 10, _, hk => exact key hk okL118_10
    | 11, _, hk => exact key hk okL118_11
    | 12, _, hk => exact key hk okL118_12
    | k + 13, h2, _ => exact absurd h2 (by omega)
theorem okMY {m : Nat} (h : m < 210) : (∀ pc, okP m pc = true) ∧ (m < 209 → okY m = true) := by
  have lift : ∀ {m : Nat}, okM m = true → ∀ pc, okP m pc = true := fun {m} h pc => by
    by_cases h1 : (J m).1 ≤ pc
    · exact okP_ge h1
    · exact List.all_eq_true.mp h pc (List.mem_range.mpr (by omega))
  match m, h with
  | 0, _ => exact ⟨lift okM_0, fun _ => okY_0⟩
  | 1, _ => exact ⟨lift okM_1, fun _ => okY_1⟩
  | 2, _ => exact ⟨lift okM_2, fun _ => okY_2⟩
  | 3, _ => exact ⟨lift okM_3, fun _ => okY_3⟩
  | 4, _ => exact ⟨lift okM_4, fun _ => okY_4⟩
  | 5, _ => exact ⟨lift okM_5, fun _ => okY_5⟩
  | 6, _ => exact ⟨lift okM_6, fun _ => okY_6⟩
  | 7, _ => exact ⟨lift okM_7, fun _ => okY_7⟩
  | 8, _ => exact ⟨lift okM_8, fun _ => okY_8⟩
  | 9, _ => exact ⟨lift okM_9, fun _ => okY_9⟩
  | 10, _ => exact ⟨lift okM_10, fun _ => okY_10⟩
  | 11, _ => exact ⟨lift okM_11, fun _ => okY_11⟩
  | 12, _ => exact ⟨lift okM_12, fun _ => okY_12⟩
  | 13, _ => exact ⟨lift okM_13, fun _ => okY_13⟩
  | 14, _ => exact ⟨lift okM_14, fun _ => okY_14⟩
  | 15, _ => exact ⟨lift okM_15, fun _ => okY_15⟩
  | 16, _ => exact ⟨lift okM_16, fun _ => okY_16⟩
  | 17, _ => exact ⟨lift okM_17, fun _ => okY_17⟩
  | 18, _ => exact ⟨lift okM_18, fun _ => okY_18⟩
  | 19, _ => exact ⟨lift okM_19, fun _ => okY_19⟩
  | 20, _ => exact ⟨lift okM_20, fun _ => okY_20⟩
  | 21, _ => exact ⟨lift okM_21, fun _ => okY_21⟩
  | 22, _ => exact ⟨lift okM_22, fun _ => okY_22⟩
  | 23, _ => exact ⟨lift okM_23, fun _ => okY_23⟩
  | 24, _ => exact ⟨lift okM_24, fun _ => okY_24⟩
  | 25, _ => exact ⟨lift okM_25, fun _ => okY_25⟩
  | 26, _ => exact ⟨lift okM_26, fun _ => okY_26⟩
  | 27, _ => exact ⟨lift okM_27, fun _ => okY_27⟩
  | 28, _ => exact ⟨lift okM_28, fun _ => okY_28⟩
  | 29, _ => exact ⟨lift okM_29, fun _ => okY_29⟩
  | 30, _ => exact ⟨lift okM_30, fun _ => okY_30⟩
  | 31, _ => exact ⟨lift okM_31, fun _ => okY_31⟩
  | 32, _ => exact ⟨lift okM_32, fun _ => okY_32⟩
  | 33, _ => exact ⟨lift okM_33, fun _ => okY_33⟩
  | 34, _ => exact ⟨lift okM_34, fun _ => okY_34⟩
  | 35, _ => exact ⟨lift okM_35, fun _ => okY_35⟩
  | 36, _ => exact ⟨lift okM_36, fun _ => okY_36⟩
  | 37, _ => exact ⟨lift okM_37, fun _ => okY_37⟩
  | 38, _ => exact ⟨lift okM_38, fun _ => okY_38⟩
  | 39, _ => exact ⟨lift okM_39, fun _ => okY_39⟩
  | 40, _ => exact ⟨lift okM_40, fun _ => okY_40⟩
  | 41, _ => exact ⟨lift okM_41, fun _ => okY_41⟩
  | 42, _ => exact ⟨lift okM_42, fun _ => okY_42⟩
  | 43, _ => exact ⟨lift okM_43, fun _ => okY_43⟩
  | 44, _ => exact ⟨lift okM_44, fun _ => okY_44⟩
  | 45, _ => exact ⟨lift okM_45, fun _ => okY_45⟩
  | 46, _ => exact ⟨lift okM_46, fun _ => okY_46⟩
  | 47, _ => exact ⟨lift okM_47, fun _ => okY_47⟩
  | 48, _ => exact ⟨lift okM_48, fun _ => okY_48⟩
  | 49, _ => exact ⟨lift okM_49, fun _ => okY_49⟩
  | 50, _ => exact ⟨lift okM_50, fun _ => okY_50⟩
  | 51, _ => exact ⟨lift okM_51, fun _ => okY_51⟩
  | 52, _ => exact ⟨lift okM_52, fun _ => okY_52⟩
  | 53, _ => exact ⟨lift okM_53, fun _ => okY_53⟩
  | 54, _ => exact ⟨lift okM_54, fun _ => okY_54⟩
  | 55, _ => exact ⟨lift okM_55, fun _ => okY_55⟩
  | 56, _ => exact ⟨lift okM_56, fun _ => okY_56⟩
  | 57, _ => exact ⟨lift okM_57, fun _ => okY_57⟩
  | 58, _ => exact ⟨lift okM_58, fun _ => okY_58⟩
  | 59, _ => exact ⟨lift okM_59, fun _ => okY_59⟩
  | 60, _ => exact ⟨lift okM_60, fun _ => okY_60⟩
  | 61, _ => exact ⟨lift okM_61, fun _ => okY_61⟩
  | 62, _ => exact ⟨lift okM_62, fun _ => okY_62⟩
  | 63, _ => exact ⟨lift okM_63, fun _ => okY_63⟩
  | 64, _ => exact ⟨lift okM_64, fun _ => okY_64⟩
  | 65, _ => exact ⟨lift okM_65, fun _ => okY_65⟩
  | 66, _ => exact ⟨lift okM_66, fun _ => okY_66⟩
  | 67, _ => exact ⟨lift okM_67, fun _ => okY_67⟩
  | 68, _ => exact ⟨lift okM_68, fun _ => okY_68⟩
  | 69, _ => exact ⟨lift okM_69, fun _ => okY_69⟩
  | 70, _ => exact ⟨lift okM_70, fun _ => okY_70⟩
  | 71, _ => exact ⟨lift okM_71, fun _ => okY_71⟩
  | 72, _ => exact ⟨lift okM_72, fun _ => okY_72⟩
  | 73, _ => exact ⟨lift okM_73, fun _ => okY_73⟩
  | 74, _ => exact ⟨lift okM_74, fun _ => okY_74⟩
  | 75, _ => exact ⟨lift okM_75, fun _ => okY_75⟩
  | 76, _ => exact ⟨lift okM_76, fun _ => okY_76⟩
  | 77, _ => exact ⟨lift okM_77, fun _ => okY_77⟩
  | 78, _ => exact ⟨lift okM_78, fun _ => okY_78⟩
  | 79, _ => exact ⟨lift okM_79, fun _ => okY_79⟩
  | 80, _ => exact ⟨lift okM_80, fun _ => okY_80⟩
  | 81, _ => exact ⟨lift okM_81, fun _ => okY_81⟩
  | 82, _ => exact ⟨lift okM_82, fun _ => okY_82⟩
  | 83, _ => exact ⟨lift okM_83, fun _ => okY_83⟩
  | 84, _ => exact ⟨lift okM_84, fun _ => okY_84⟩
  | 85, _ => exact ⟨lift okM_85, fun _ => okY_85⟩
  | 86, _ => exact ⟨lift okM_86, fun _ => okY_86⟩
  | 87, _ => exact ⟨lift okM_87, fun _ => okY_87⟩
  | 88, _ => exact ⟨lift okM_88, fun _ => okY_88⟩
  | 89, _ => exact ⟨lift okM_89, fun _ => okY_89⟩
  | 90, _ => exact ⟨lift okM_90, fun _ => okY_90⟩
  | 91, _ => exact ⟨lift okM_91, fun _ => okY_91⟩
  | 92, _ => exact ⟨lift okM_92, fun _ => okY_92⟩
  | 93, _ => exact ⟨lift okM_93, fun _ => okY_93⟩
  | 94, _ => exact ⟨lift okM_94, fun _ => okY_94⟩
  | 95, _ => exact ⟨lift okM_95, fun _ => okY_95⟩
  | 96, _ => exact ⟨lift okM_96, fun _ => okY_96⟩
  | 97, _ => exact ⟨lift okM_97, fun _ => okY_97⟩
  | 98, _ => exact ⟨lift okM_98, fun _ => okY_98⟩
  | 99, _ => exact ⟨lift okM_99, fun _ => okY_99⟩
  | 100, _ => exact ⟨lift okM_100, fun _ => okY_100⟩
  | 101, _ => exact ⟨lift okM_101, fun _ => okY_101⟩
  | 102, _ => exact ⟨lift okM_102, fun _ => okY_102⟩
  | 103, _ => exact ⟨lift okM_103, fun _ => okY_103⟩
  | 104, _ => exact ⟨lift okM_104, fun _ => okY_104⟩
  | 105, _ => exact ⟨lift okM_105, fun _ => okY_105⟩
  | 106, _ => exact ⟨lift okM_106, fun _ => okY_106⟩
  | 107, _ => exact ⟨lift okM_107, fun _ => okY_107⟩
  | 108, _ => exact ⟨lift okM_108, fun _ => okY_108⟩
  | 109, _ => exact ⟨lift okM_109, fun _ => okY_109⟩
  | 110, _ => exact ⟨lift okM_110, fun _ => okY_110⟩
  | 111, _ => exact ⟨lift okM_111, fun _ => okY_111⟩
  | 112, _ => exact ⟨lift okM_112, fun _ => okY_112⟩
  | 113, _ => exact ⟨fun _ => okL113_at, fun _ => okY_113⟩
  | 114, _ => exact ⟨lift okM_114, fun _ => okY_114⟩
  | 115, _ => exact ⟨lift okM_115, fun _ => okY_115⟩
  | 116, _ => exact ⟨lift okM_116, fun _ => okY_116⟩
  | 117, _ => exact ⟨lift okM_117, fun _ => okY_117⟩
  | 118, _ => exact ⟨fun _ => okL118_at, fun _ => okY_118⟩
  | 119, _ => exact ⟨lift okM_119, fun _ => okY_119⟩
  | 120, _ => exact ⟨lift okM_120, fun _ => okY_120⟩
  | 121, _ => exact ⟨lift okM_121, fun _ => okY_121⟩
  | 122, _ => exact ⟨lift okM_122, fun _ => okY_122⟩
  | 123, _ => exact ⟨lift okM_123, fun _ => okY_123⟩
  | 124, _ => exact ⟨lift okM_124, fun _ => okY_124⟩
  | 125, _ => exact ⟨lift okM_125, fun _ => okY_125⟩
  | 126, _ => exact ⟨lift okM_126, fun _ => okY_126⟩
  | 127, _ => exact ⟨lift okM_127, fun _ => okY_127⟩
  | 128, _ => exact ⟨lift okM_128, fun _ => okY_128⟩
  | 129, _ => exact ⟨lift okM_129, fun _ => okY_129⟩
  | 130, _ => exact ⟨lift okM_130, fun _ => okY_130⟩
  | 131, _ => exact ⟨lift okM_131, fun _ => okY_131⟩
  | 132, _ => exact ⟨lift okM_132, fun _ => okY_132⟩
  | 133, _ => exact ⟨lift okM_133, fun _ => okY_133⟩
  | 134, _ => exact ⟨lift okM_134, fun _ => okY_134⟩
  | 135, _ => exact ⟨lift okM_135, fun _ => okY_135⟩
  | 136, _ => exact ⟨lift okM_136, fun _ => okY_136⟩
  | 137, _ => exact ⟨lift okM_137, fun _ => okY_137⟩
  | 138, _ => exact ⟨lift okM_138, fun _ => okY_138⟩
  | 139, _ => exact ⟨lift okM_139, fun _ => okY_139⟩
  | 140, _ => exact ⟨lift okM_140, fun _ => okY_140⟩
  | 141, _ => exact ⟨lift okM_141, fun _ => okY_141⟩
  | 142, _ => exact ⟨lift okM_142, fun _ => okY_142⟩
  | 143, _ => exact ⟨lift okM_143, fun _ => okY_143⟩
  | 144, _ => exact ⟨lift okM_144, fun _ => okY_144⟩
  | 145, _ => exact ⟨lift okM_145, fun _ => okY_145⟩
  | 146, _ => exact ⟨lift okM_146, fun _ => okY_146⟩
  | 147, _ => exact ⟨lift okM_147, fun _ => okY_147⟩
  | 148, _ => exact ⟨lift okM_148, fun _ => okY_148⟩
  | 149, _ => exact ⟨lift okM_149, fun _ => okY_149⟩
  | 150, _ => exact ⟨lift okM_150, fun _ => okY_150⟩
  | 151, _ => exact ⟨lift okM_151, fun _ => okY_151⟩
  | 152, _ => exact ⟨lift okM_152, fun _ => okY_152⟩
  | 153, _ => exact ⟨lift okM_153, fun _ => okY_153⟩
  | 154, _ => exact ⟨lift okM_154, fun _ => okY_154⟩
  | 155, _ => exact ⟨lift okM_155, fun _ => okY_155⟩
  | 156, _ => exact ⟨lift okM_156, fun _ => okY_156⟩
  | 157, _ => exact ⟨lift okM_157, fun _ => okY_157⟩
  | 158, _ => exact ⟨lift okM_158, fun _ => okY_158⟩
  | 159, _ => exact ⟨lift okM_159, fun _ => okY_159⟩
  | 160, _ => exact ⟨lift okM_160, fun _ => okY_160⟩
  | 161, _ => exact ⟨lift okM_161, fun _ => okY_161⟩
  | 162, _ => exact ⟨lift okM_162, fun _ => okY_162⟩
  | 163, _ => exact ⟨lift okM_163, fun _ => okY_163⟩
  | 164, _ => exact ⟨lift okM_164, fun _ => okY_164⟩
  | 165, _ => exact ⟨lift okM_165, fun _ => okY_165⟩
  | 166, _ => exact ⟨lift okM_166, fun _ => okY_166⟩
  | 167, _ => exact ⟨lift okM_167, fun _ => okY_167⟩
  | 168, _ => exact ⟨lift okM_168, fun _ => okY_168⟩
  | 169, _ => exact ⟨lift okM_169, fun _ => okY_169⟩
  | 170, _ => exact ⟨lift okM_170, fun _ => okY_170⟩
  | 171, _ => exact ⟨lift okM_171, fun _ => okY_171⟩
  | 172, _ => exact ⟨lift okM_172, fun _ => okY_172⟩
  | 173, _ => exact ⟨lift okM_173, fun _ => okY_173⟩
  | 174, _ => exact ⟨lift okM_174, fun _ => okY_174⟩
  | 175, _ => exact ⟨lift okM_175, fun _ => okY_175⟩
  | 176, _ => exact ⟨lift okM_176, fun _ => okY_176⟩
  | 177, _ => exact ⟨lift okM_177, fun _ => okY_177⟩
  | 178, _ => exact ⟨lift okM_178, fun _ => okY_178⟩
  | 179, _ => exact ⟨lift okM_179, fun _ => okY_179⟩
  | 180, _ => exact ⟨lift okM_180, fun _ => okY_180⟩
  | 181, _ => exact ⟨lift okM_181, fun _ => okY_181⟩
  | 182, _ => exact ⟨lift okM_182, fun _ => okY_182⟩
  | 183, _ => exact ⟨lift okM_183, fun _ => okY_183⟩
  | 184, _ => exact ⟨lift okM_184, fun _ => okY_184⟩
  | 185, _ => exact ⟨lift okM_185, fun _ => okY_185⟩
  | 186, _ => exact ⟨lift okM_186, fun _ => okY_186⟩
  | 187, _ => exact ⟨lift okM_187, fun _ => okY_187⟩
  | 188, _ => exact ⟨lift okM_188, fun _ => okY_188⟩
  | 189, _ => exact ⟨lift okM_189, fun _ => okY_189⟩
  | 190, _ => exact ⟨lift okM_190, fun _ => okY_190⟩
  | 191, _ => exact ⟨lift okM_191, fun _ => okY_191⟩
  | 192, _ => exact ⟨lift okM_192, fun _ => okY_192⟩
  | 193, _ => exact ⟨lift okM_193, fun _ => okY_193⟩
  | 194, _ => exact ⟨lift okM_194, fun _ => okY_194⟩
  | 195, _ => exact ⟨lift okM_195, fun _ => okY_195⟩
  | 196, _ => exact ⟨lift okM_196, fun _ => okY_196⟩
  | 197, _ => exact ⟨lift okM_197, fun _ => okY_197⟩
  | 198, _ => exact ⟨lift okM_198, fun _ => okY_198⟩
  | 199, _ => exact ⟨lift okM_199, fun _ => okY_199⟩
  | 200, _ => exact ⟨lift okM_200, fun _ => okY_200⟩
  | 201, _ => exact ⟨lift okM_201, fun _ => okY_201⟩
  | 202, _ => exact ⟨lift okM_202, fun _ => okY_202⟩
  | 203, _ => exact ⟨lift okM_203, fun _ => okY_203⟩
  | 204, _ => exact ⟨lift okM_204, fun _ => okY_204⟩
  | 205, _ => exact ⟨lift okM_205, fun _ => okY_205⟩
  | 206, _ => exact ⟨lift okM_206, fun _ => okY_206⟩
  | 207, _ => exact ⟨lift okM_207, fun _ => okY_207⟩
  | 208, _ => exact ⟨lift okM_208, fun _ => okY_208⟩
  | 209, _ => exact ⟨lift okM_209, fun h => absurd h (by omega)⟩
  | m + 210, h => exact absurd h (by omega)
theorem I_lt {m pc : Nat} {e : IE} (h : I m pc = some e) : m < 210 := by
  unfold I at h
  cases h1 : Nat.blt m 210
  · rw [h1] at h; cases h
  · exact Nat.le_of_ble_eq_true h1
theorem I_ok {m pc : Nat} {e : IE} (h : I m pc = some e) : decode (cM m) pc = .ok (e.1, e.2.1) ∧ chk m pc e.2.1 e.1 e.2.2 = true ∧ m < 210 := by
  have h1 := I_lt h
  have h3 := (okMY h1).1 pc
  unfold okP at h3
  rw [h] at h3
  have h3 : okI m pc e = true := h3
  unfold okI at h3
  rw [Bool.and_eq_true, decide_eq_true_eq] at h3
  exact ⟨h3.1, h3.2, h1⟩
