/-! what the kernel checks of the links and words -/
def zG : List Jvm.Cond := lw_tbl.filter goodWord
def zat (w : Nat) (c : Jvm.Cond) : Bool := decide (lw_tbl[w]? = some c) && goodWord c
theorem zat_in {w : Nat} {c : Jvm.Cond} (h : zat w c = true) : c ∈ zG := by
  simp only [zat, Bool.and_eq_true, decide_eq_true_eq] at h
  exact List.mem_filter.mpr ⟨List.mem_of_getElem? h.1, h.2⟩
theorem zG_good : GoodIn lw_tbl zG := fun w hw => ⟨(List.mem_filter.mp hw).1, good_of_word (List.mem_filter.mp hw).2⟩
theorem zG_zG : GoodIn zG zG := fun w hw => ⟨hw, good_of_word (List.mem_filter.mp hw).2⟩
def zown1 (c : Nat) : String := zown.getD c ""
def zlok (c : Nat) (e : Nat × Nat × Nat × Nat × Nat) : Bool := match e with
  | (i, 0, t, j, w) => if t < 13 then decide (j < zN t) && zat w (.fieldLink (zown1 c) i ((zcl t).2.1 j).1 ((zcl t).2.1 j).2.1 ((zcl t).2.1 j).2.2.1) else
      decide (t = 13) && (decide (j = 0) && zat w (.fieldLink (zown1 c) i "java/lang/String" "value" "[B") || decide (j = 1) && zat w (.fieldLink (zown1 c) i "java/lang/String" "coder" "B"))
  | (i, 1, 0, _, w) => zat w (.fieldLink (zown1 c) i "SlateHalves" "ABOVE" "[I")
  | (i, 1, 1, _, w) => zat w (.fieldLink (zown1 c) i "java/lang/String" "COMPACT_STRINGS" "Z")
  | (i, 1, 2, _, w) => zat w (.fieldLink (zown1 c) i "jdk/internal/util/Preconditions" "SIOOBE_FORMATTER" "Ljava/util/function/BiFunction;")
  | (i, 2, q, n, w) => decide (0 < q ∧ q < 240) && decide (n = (zmeth q).2.2.2.2.2) && zat w (.methodLink (zown1 c) i (zmeth q).1)
  | (i, 3, q, n, _) => decide (0 < q ∧ q < 240) && decide (n = (zmeth q).2.2.2.2.2) && znest.any (fun z => decide (z.1 = zown1 c ∧ z.2.1 = i ∧ z.2.2.1 = q))
  | (i, 4, _, _, w) => zat w (.methodLink (zown1 c) i Lib.objectInit)
  | (i, 5, _, _, w) => zat w (.methodLink (zown1 c) i arraycopyName)
  | (i, 6, t, b, w) => decide (t < 13) && zat w (.classLink (zown1 c) i (zcl t).1) && (decide (b = 0) || decide (24 ≤ b ∧ b ≤ 26 ∧ zact b = t))
  | (i, 9, a, _, _) => decide (a < 7) && (match zstr.getD a (0, 0, "") with
    | (c', i', _) => decide (c' = c ∧ i' = i))
  | _ => false
def zkok (c : Nat) (e : Nat × Int32 × Nat) : Bool := zat e.2.2 (.constant (zown1 c) e.1 e.2.1)
def zklok (c : Nat) (e : Nat × Int64 × Nat) : Bool := zat e.2.2 (.constantLong (zown1 c) e.1 e.2.1)
theorem zlok_all : ∀ c, c < 20 → (zlks.getD c []).all (zlok c) = true := by decide +kernel
theorem zkok_all : ∀ c, c < 20 → (zkis.getD c []).all (zkok c) = true := by decide +kernel
theorem zklok_all : ∀ c, c < 20 → (zkls.getD c []).all (zklok c) = true := by decide +kernel
/-- a method's own words -/
def zmok (k : Nat) : Bool := match zmw.getD k (3, 0, 0, 0, 0), zmeth k with
  | (kd, p1, p2, p3, _), (y, _, n, r, _, np) => zat p3 (.initialized y.cls) && plainFor y && decide (y.cls ≠ "java/lang/invoke/MethodHandle" ∧ y.cls ≠ "java/lang/invoke/VarHandle") &&
    decide ((parseMethodDescriptor y.desc).map (fun d => d.parameters.length) = some np) && decide (n ≤ 30) &&
    (match kd with
    | 0 => zat p1 (.instanceMethod y) && zat p2 (.selects y.cls y y) && decide (y.name ≠ "<init>")
    | 1 => zat p1 (.static y)
    | 2 => zat p1 (.instanceMethod y) && decide (y.name = "<init>") && decide (r = none)
    | _ => false)

theorem zmok_1 : ∀ k, k < 20 → zmok (k + 1) = true := by decide +kernel
theorem zmok_21 : ∀ k, k < 20 → zmok (k + 21) = true := by decide +kernel
theorem zmok_41 : ∀ k, k < 20 → zmok (k + 41) = true := by decide +kernel
theorem zmok_61 : ∀ k, k < 20 → zmok (k + 61) = true := by decide +kernel
theorem zmok_81 : ∀ k, k < 20 → zmok (k + 81) = true := by decide +kernel
theorem zmok_101 : ∀ k, k < 20 → zmok (k + 101) = true := by decide +kernel
theorem zmok_121 : ∀ k, k < 20 → zmok (k + 121) = true := by decide +kernel
theorem zmok_141 : ∀ k, k < 20 → zmok (k + 141) = true := by decide +kernel
theorem zmok_161 : ∀ k, k < 20 → zmok (k + 161) = true := by decide +kernel
theorem zmok_181 : ∀ k, k < 20 → zmok (k + 181) = true := by decide +kernel
theorem zmok_201 : ∀ k, k < 20 → zmok (k + 201) = true := by decide +kernel
theorem zmok_221 : ∀ k, k < 19 → zmok (k + 221) = true := by decide +kernel
theorem zmok_all : ∀ k, 0 < k → k < 240 → zmok k = true := by
  intro k h0 hk
  by_cases h1 : k < 21
  · have h := zmok_1 (k - 1) (by omega)
    rwa [show k - 1 + 1 = k by omega] at h
  by_cases h21 : k < 41
  · have h := zmok_21 (k - 21) (by omega)
    rwa [show k - 21 + 21 = k by omega] at h
  by_cases h41 : k < 61
  · have h := zmok_41 (k - 41) (by omega)
    rwa [show k - 41 + 41 = k by omega] at h
  by_cases h61 : k < 81
  · have h := zmok_61 (k - 61) (by omega)
    rwa [show k - 61 + 61 = k by omega] at h
  by_cases h81 : k < 101
  · have h := zmok_81 (k - 81) (by omega)
    rwa [show k - 81 + 81 = k by omega] at h
  by_cases h101 : k < 121
  · have h := zmok_101 (k - 101) (by omega)
    rwa [show k - 101 + 101 = k by omega] at h
  by_cases h121 : k < 141
  · have h := zmok_121 (k - 121) (by omega)
    rwa [show k - 121 + 121 = k by omega] at h
  by_cases h141 : k < 161
  · have h := zmok_141 (k - 141) (by omega)
    rwa [show k - 141 + 141 = k by omega] at h
  by_cases h161 : k < 181
  · have h := zmok_161 (k - 161) (by omega)
    rwa [show k - 161 + 161 = k by omega] at h
  by_cases h181 : k < 201
  · have h := zmok_181 (k - 181) (by omega)
    rwa [show k - 181 + 181 = k by omega] at h
  by_cases h201 : k < 221
  · have h := zmok_201 (k - 201) (by omega)
    rwa [show k - 201 + 201 = k by omega] at h
  by_cases h221 : k < 240
  · have h := zmok_221 (k - 221) (by omega)
    rwa [show k - 221 + 221 = k by omega] at h
  omega
theorem zown_all : ∀ k, k < 240 → zown1 (zcid k) = (zmeth k).1.cls ∧ zcid k < 20 := by decide +kernel
theorem zcw_all : ∀ t, t < 13 → zat (zcw.getD t (0, 0)).1 (.instantiable (zcl t).1 (zcl t).2.2) = true ∧ zat (zcw.getD t (0, 0)).2 (.initialized (zcl t).1) = true := by decide +kernel
theorem zuws : ∀ t, t < 13 → ∀ j, j < zN t → u_lay (zcl t).1 (zcl t).2.1 j ∈ zG := by decide +kernel
theorem zty_ok : ∀ t, t < 13 → ∀ j, j < zN t → parseFieldDescriptor ((zcl t).2.1 j).2.2.1 = some (zty t j) := by decide +kernel
theorem zkd_ok : ∀ t, t < 13 → ∀ j, j < zN t → zkd (zty t j) ≠ 3 := by decide +kernel
theorem znm_ok : ∀ t, t < 13 → ∀ a, a < zN t → ∀ b, b < zN t → a ≠ b → ((zcl t).2.1 a).2.1 ≠ ((zcl t).2.1 b).2.1 := by decide +kernel
theorem zdcl_ok : ∀ t, t < 13 → ∀ j, j < zN t → ((zcl t).2.1 j).1 = (zcl t).1 := by decide +kernel
theorem zvw : ∀ t, t < 13 → vwCl[t]? = some (zcl t) := by
  intro t ht
  unfold zcl
  have h : t < vwCl.length := ht
  rw [List.getD_eq_getElem?_getD, List.getElem?_eq_getElem h]
  rfl
theorem zw_arri : (.arrayClass .int : Jvm.Cond) ∈ zG := List.mem_filter.mpr ⟨by decide +kernel, by decide +kernel⟩
theorem zw_arrb : (.arrayClass .byte : Jvm.Cond) ∈ zG := List.mem_filter.mpr ⟨by decide +kernel, by decide +kernel⟩
theorem zw_arrz : (.arrayClass .boolean : Jvm.Cond) ∈ zG := List.mem_filter.mpr ⟨by decide +kernel, by decide +kernel⟩
theorem zw_arrl : (.arrayClass .long : Jvm.Cond) ∈ zG := List.mem_filter.mpr ⟨by decide +kernel, by decide +kernel⟩
theorem zw_obji : (.instanceMethod Lib.objectInit : Jvm.Cond) ∈ zG := List.mem_filter.mpr ⟨by decide +kernel, by decide +kernel⟩
theorem zw_objc : (.code Lib.objectInit ⟨#[0xb1]⟩ 1 none : Jvm.Cond) ∈ zG := List.mem_filter.mpr ⟨by decide +kernel, by decide +kernel⟩
theorem zw_acn : (.native arraycopyName : Jvm.Cond) ∈ zG := List.mem_filter.mpr ⟨by decide +kernel, by decide +kernel⟩
theorem zw_acs : (.static arraycopyName : Jvm.Cond) ∈ zG := List.mem_filter.mpr ⟨by decide +kernel, by decide +kernel⟩
theorem zw_aci : (.initialized "java/lang/System" : Jvm.Cond) ∈ zG := List.mem_filter.mpr ⟨by decide +kernel, by decide +kernel⟩
theorem zd_all : ∀ k, k < 240 → (ztab k).all (zdk (zmeth k).2.1) = true := by
  intro k hk
  match k, hk with
  | 0, _ => exact zd_0
  | 1, _ => exact zd_1
  | 2, _ => exact zd_2
  | 3, _ => exact zd_3
  | 4, _ => exact zd_4
  | 5, _ => exact zd_5
  | 6, _ => exact zd_6
  | 7, _ => exact zd_7
  | 8, _ => exact zd_8
  | 9, _ => exact zd_9
  | 10, _ => exact zd_10
  | 11, _ => exact zd_11
  | 12, _ => exact zd_12
  | 13, _ => exact zd_13
  | 14, _ => exact zd_14
  | 15, _ => exact zd_15
  | 16, _ => exact zd_16
  | 17, _ => exact zd_17
  | 18, _ => exact zd_18
  | 19, _ => exact zd_19
  | 20, _ => exact zd_20
  | 21, _ => exact zd_21
  | 22, _ => exact zd_22
  | 23, _ => exact zd_23
  | 24, _ => exact zd_24
  | 25, _ => exact zd_25
  | 26, _ => exact zd_26
  | 27, _ => exact zd_27
  | 28, _ => exact zd_28
  | 29, _ => exact zd_29
  | 30, _ => exact zd_30
  | 31, _ => exact zd_31
  | 32, _ => exact zd_32
  | 33, _ => exact zd_33
  | 34, _ => exact zd_34
  | 35, _ => exact zd_35
  | 36, _ => exact zd_36
  | 37, _ => exact zd_37
  | 38, _ => exact zd_38
  | 39, _ => exact zd_39
  | 40, _ => exact zd_40
  | 41, _ => exact zd_41
  | 42, _ => exact zd_42
  | 43, _ => exact zd_43
  | 44, _ => exact zd_44
  | 45, _ => exact zd_45
  | 46, _ => exact zd_46
  | 47, _ => exact zd_47
  | 48, _ => exact zd_48
  | 49, _ => exact zd_49
  | 50, _ => exact zd_50
  | 51, _ => exact zd_51
  | 52, _ => exact zd_52
  | 53, _ => exact zd_53
  | 54, _ => exact zd_54
  | 55, _ => exact zd_55
  | 56, _ => exact zd_56
  | 57, _ => exact zd_57
  | 58, _ => exact zd_58
  | 59, _ => exact zd_59
  | 60, _ => exact zd_60
  | 61, _ => exact zd_61
  | 62, _ => exact zd_62
  | 63, _ => exact zd_63
  | 64, _ => exact zd_64
  | 65, _ => exact zd_65
  | 66, _ => exact zd_66
  | 67, _ => exact zd_67
  | 68, _ => exact zd_68
  | 69, _ => exact zd_69
  | 70, _ => exact zd_70
  | 71, _ => exact zd_71
  | 72, _ => exact zd_72
  | 73, _ => exact zd_73
  | 74, _ => exact zd_74
  | 75, _ => exact zd_75
  | 76, _ => exact zd_76
  | 77, _ => exact zd_77
  | 78, _ => exact zd_78
  | 79, _ => exact zd_79
  | 80, _ => exact zd_80
  | 81, _ => exact zd_81
  | 82, _ => exact zd_82
  | 83, _ => exact zd_83
  | 84, _ => exact zd_84
  | 85, _ => exact zd_85
  | 86, _ => exact zd_86
  | 87, _ => exact zd_87
  | 88, _ => exact zd_88
  | 89, _ => exact zd_89
  | 90, _ => exact zd_90
  | 91, _ => exact zd_91
  | 92, _ => exact zd_92
  | 93, _ => exact zd_93
  | 94, _ => exact zd_94
  | 95, _ => exact zd_95
  | 96, _ => exact zd_96
  | 97, _ => exact zd_97
  | 98, _ => exact zd_98
  | 99, _ => exact zd_99
  | 100, _ => exact zd_100
  | 101, _ => exact zd_101
  | 102, _ => exact zd_102
  | 103, _ => exact zd_103
  | 104, _ => exact zd_104
  | 105, _ => exact zd_105
  | 106, _ => exact zd_106
  | 107, _ => exact zd_107
  | 108, _ => exact zd_108
  | 109, _ => exact zd_109
  | 110, _ => exact zd_110
  | 111, _ => exact zd_111
  | 112, _ => exact zd_112
  | 113, _ => exact zd_113
  | 114, _ => exact zd_114
  | 115, _ => exact zd_115
  | 116, _ => exact zd_116
  | 117, _ => exact zd_117
  | 118, _ => exact zd_118
  | 119, _ => exact zd_119
  | 120, _ => exact zd_120
  | 121, _ => exact zd_121
  | 122, _ => exact zd_122
  | 123, _ => exact zd_123
  | 124, _ => exact zd_124
  | 125, _ => exact zd_125
  | 126, _ => exact zd_126
  | 127, _ => exact zd_127
  | 128, _ => exact zd_128
  | 129, _ => exact zd_129
  | 130, _ => exact zd_130
  | 131, _ => exact zd_131
  | 132, _ => exact zd_132
  | 133, _ => exact zd_133
  | 134, _ => exact zd_134
  | 135, _ => exact zd_135
  | 136, _ => exact zd_136
  | 137, _ => exact zd_137
  | 138, _ => exact zd_138
  | 139, _ => exact zd_139
  | 140, _ => exact zd_140
  | 141, _ => exact zd_141
  | 142, _ => exact zd_142
  | 143, _ => exact zd_143
  | 144, _ => exact zd_144
  | 145, _ => exact zd_145
  | 146, _ => exact zd_146
  | 147, _ => exact zd_147
  | 148, _ => exact zd_148
  | 149, _ => exact zd_149
  | 150, _ => exact zd_150
  | 151, _ => exact zd_151
  | 152, _ => exact zd_152
  | 153, _ => exact zd_153
  | 154, _ => exact zd_154
  | 155, _ => exact zd_155
  | 156, _ => exact zd_156
  | 157, _ => exact zd_157
  | 158, _ => exact zd_158
  | 159, _ => exact zd_159
  | 160, _ => exact zd_160
  | 161, _ => exact zd_161
  | 162, _ => exact zd_162
  | 163, _ => exact zd_163
  | 164, _ => exact zd_164
  | 165, _ => exact zd_165
  | 166, _ => exact zd_166
  | 167, _ => exact zd_167
  | 168, _ => exact zd_168
  | 169, _ => exact zd_169
  | 170, _ => exact zd_170
  | 171, _ => exact zd_171
  | 172, _ => exact zd_172
  | 173, _ => exact zd_173
  | 174, _ => exact zd_174
  | 175, _ => exact zd_175
  | 176, _ => exact zd_176
  | 177, _ => exact zd_177
  | 178, _ => exact zd_178
  | 179, _ => exact zd_179
  | 180, _ => exact zd_180
  | 181, _ => exact zd_181
  | 182, _ => exact zd_182
  | 183, _ => exact zd_183
  | 184, _ => exact zd_184
  | 185, _ => exact zd_185
  | 186, _ => exact zd_186
  | 187, _ => exact zd_187
  | 188, _ => exact zd_188
  | 189, _ => exact zd_189
  | 190, _ => exact zd_190
  | 191, _ => exact zd_191
  | 192, _ => exact zd_192
  | 193, _ => exact zd_193
  | 194, _ => exact zd_194
  | 195, _ => exact zd_195
  | 196, _ => exact zd_196
  | 197, _ => exact zd_197
  | 198, _ => exact zd_198
  | 199, _ => exact zd_199
  | 200, _ => exact zd_200
  | 201, _ => exact zd_201
  | 202, _ => exact zd_202
  | 203, _ => exact zd_203
  | 204, _ => exact zd_204
  | 205, _ => exact zd_205
  | 206, _ => exact zd_206
  | 207, _ => exact zd_207
  | 208, _ => exact zd_208
  | 209, _ => exact zd_209
  | 210, _ => exact zd_210
  | 211, _ => exact zd_211
  | 212, _ => exact zd_212
  | 213, _ => exact zd_213
  | 214, _ => exact zd_214
  | 215, _ => exact zd_215
  | 216, _ => exact zd_216
  | 217, _ => exact zd_217
  | 218, _ => exact zd_218
  | 219, _ => exact zd_219
  | 220, _ => exact zd_220
  | 221, _ => exact zd_221
  | 222, _ => exact zd_222
  | 223, _ => exact zd_223
  | 224, _ => exact zd_224
  | 225, _ => exact zd_225
  | 226, _ => exact zd_226
  | 227, _ => exact zd_227
  | 228, _ => exact zd_228
  | 229, _ => exact zd_229
  | 230, _ => exact zd_230
  | 231, _ => exact zd_231
  | 232, _ => exact zd_232
  | 233, _ => exact zd_233
  | 234, _ => exact zd_234
  | 235, _ => exact zd_235
  | 236, _ => exact zd_236
  | 237, _ => exact zd_237
  | 238, _ => exact zd_238
  | 239, _ => exact zd_239
  | k + 240, h => exact absurd h (by omega)
