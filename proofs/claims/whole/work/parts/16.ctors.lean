theorem mkL0 : mkL 0 0 = 0 := by decide
theorem va_sw {α : Type} {f : Nat → α} {i j : Nat} {u v : α} (h : i ≠ j) : va_up (va_up f i u) j v = va_up (va_up f j v) i u := funext fun k => by
  by_cases h1 : k = i
  · subst h1; rw [up_va h, up_vs, up_vs]
  · by_cases h2 : k = j
    · subst h2; rw [up_vs, up_va h1, up_vs]
    · rw [up_va h2, up_va h1, up_va h1, up_va h2]
theorem tw_oi1 : Cond.instanceMethod Lib.objectInit ∈ Tk := tk_at 24 (by decide +kernel) rfl
theorem tw_oi2 : Cond.code Lib.objectInit ⟨#[0xb1]⟩ 1 none ∈ Tk := tk_at 25 (by decide +kernel) rfl
theorem tw_56 : Cond.arrayClass .int ∈ Tk := tk_at 56 (by decide +kernel) rfl
theorem tw_2 : Cond.initialized RX8 ∈ Tk := tk_at 2 (by decide +kernel) rfl
theorem tw_3 : Cond.initialized RX0 ∈ Tk := tk_at 3 (by decide +kernel) rfl
theorem tw_4 : Cond.initialized RX1 ∈ Tk := tk_at 4 (by decide +kernel) rfl
theorem tw_5 : Cond.initialized RX9 ∈ Tk := tk_at 5 (by decide +kernel) rfl
theorem tw_6 : Cond.initialized RX4 ∈ Tk := tk_at 6 (by decide +kernel) rfl
theorem tw_7 : Cond.initialized RX3 ∈ Tk := tk_at 7 (by decide +kernel) rfl
theorem tw_8 : Cond.initialized RX7 ∈ Tk := tk_at 8 (by decide +kernel) rfl
theorem tw_9 : Cond.initialized RX5 ∈ Tk := tk_at 9 (by decide +kernel) rfl
theorem tw_10 : Cond.initialized RX6 ∈ Tk := tk_at 10 (by decide +kernel) rfl
theorem tw_11 : Cond.initialized RX2 ∈ Tk := tk_at 11 (by decide +kernel) rfl
theorem tw_23 : Cond.methodLink RX10 3 Lib.objectInit ∈ Tk := tk_at 23 (by decide +kernel) rfl
theorem tw_26 : Cond.classLink RX10 9 RX8 ∈ Tk := tk_at 26 (by decide +kernel) rfl
theorem tw_27 : Cond.instantiable RX8 3 ∈ Tk := tk_at 27 (by decide +kernel) rfl
theorem tw_28 : Cond.methodLinkNest RX10 11 yX8_init "SyntaxRepair" ∈ Tk := tk_at 28 (by decide +kernel) rfl
theorem tw_31 : Cond.methodLink RX8 1 Lib.objectInit ∈ Tk := tk_at 31 (by decide +kernel) rfl
theorem tw_32 : Cond.classLink RX8 7 RX0 ∈ Tk := tk_at 32 (by decide +kernel) rfl
theorem tw_33 : Cond.instantiable RX0 5 ∈ Tk := tk_at 33 (by decide +kernel) rfl
theorem tw_34 : Cond.methodLinkNest RX8 9 yX0_init "SyntaxRepair" ∈ Tk := tk_at 34 (by decide +kernel) rfl
theorem tw_37 : Cond.methodLink RX0 3 Lib.objectInit ∈ Tk := tk_at 37 (by decide +kernel) rfl
theorem tw_57 : Cond.classLink RX8 16 RX1 ∈ Tk := tk_at 57 (by decide +kernel) rfl
theorem tw_58 : Cond.instantiable RX1 1 ∈ Tk := tk_at 58 (by decide +kernel) rfl
theorem tw_59 : Cond.methodLink RX8 18 yX1_init ∈ Tk := tk_at 59 (by decide +kernel) rfl
theorem tw_62 : Cond.methodLink RX1 3 Lib.objectInit ∈ Tk := tk_at 62 (by decide +kernel) rfl
theorem tw_63 : Cond.methodLink RX1 15 yX1_setAllToOne ∈ Tk := tk_at 63 (by decide +kernel) rfl
theorem tw_81 : Cond.classLink RX8 23 RX9 ∈ Tk := tk_at 81 (by decide +kernel) rfl
theorem tw_82 : Cond.instantiable RX9 2 ∈ Tk := tk_at 82 (by decide +kernel) rfl
theorem tw_83 : Cond.methodLinkNest RX8 25 yX9_init "SyntaxRepair" ∈ Tk := tk_at 83 (by decide +kernel) rfl
theorem tw_86 : Cond.methodLink RX9 3 Lib.objectInit ∈ Tk := tk_at 86 (by decide +kernel) rfl
theorem tw_118 : Cond.classLink RX10 16 RX4 ∈ Tk := tk_at 118 (by decide +kernel) rfl
theorem tw_119 : Cond.instantiable RX4 3 ∈ Tk := tk_at 119 (by decide +kernel) rfl
theorem tw_120 : Cond.methodLink RX10 18 yX4_init ∈ Tk := tk_at 120 (by decide +kernel) rfl
theorem tw_123 : Cond.methodLink RX4 3 Lib.objectInit ∈ Tk := tk_at 123 (by decide +kernel) rfl
theorem tw_124 : Cond.classLink RX4 9 RX8 ∈ Tk := tk_at 124 (by decide +kernel) rfl
theorem tw_126 : Cond.methodLinkNest RX4 17 yX8_init "SyntaxRepair" ∈ Tk := tk_at 126 (by decide +kernel) rfl
theorem tw_138 : Cond.classLink RX10 23 RX3 ∈ Tk := tk_at 138 (by decide +kernel) rfl
theorem tw_139 : Cond.instantiable RX3 5 ∈ Tk := tk_at 139 (by decide +kernel) rfl
theorem tw_140 : Cond.methodLinkNest RX10 25 yX3_init "SyntaxRepair" ∈ Tk := tk_at 140 (by decide +kernel) rfl
theorem tw_143 : Cond.methodLink RX3 3 Lib.objectInit ∈ Tk := tk_at 143 (by decide +kernel) rfl
theorem tw_144 : Cond.classLink RX3 15 RX8 ∈ Tk := tk_at 144 (by decide +kernel) rfl
theorem tw_145 : Cond.methodLinkNest RX3 17 yX8_init "SyntaxRepair" ∈ Tk := tk_at 145 (by decide +kernel) rfl
theorem tw_164 : Cond.classLink RX10 30 RX7 ∈ Tk := tk_at 164 (by decide +kernel) rfl
theorem tw_165 : Cond.instantiable RX7 11 ∈ Tk := tk_at 165 (by decide +kernel) rfl
theorem tw_166 : Cond.methodLinkNest RX10 32 yX7_init "SyntaxRepair" ∈ Tk := tk_at 166 (by decide +kernel) rfl
theorem tw_169 : Cond.methodLink RX7 3 Lib.objectInit ∈ Tk := tk_at 169 (by decide +kernel) rfl
theorem tw_170 : Cond.classLink RX7 9 RX8 ∈ Tk := tk_at 170 (by decide +kernel) rfl
theorem tw_171 : Cond.methodLinkNest RX7 11 yX8_init "SyntaxRepair" ∈ Tk := tk_at 171 (by decide +kernel) rfl
theorem tw_172 : Cond.classLink RX7 18 RX5 ∈ Tk := tk_at 172 (by decide +kernel) rfl
theorem tw_173 : Cond.instantiable RX5 4 ∈ Tk := tk_at 173 (by decide +kernel) rfl
theorem tw_174 : Cond.methodLinkNest RX7 20 yX5_init "SyntaxRepair" ∈ Tk := tk_at 174 (by decide +kernel) rfl
theorem tw_177 : Cond.methodLink RX5 3 Lib.objectInit ∈ Tk := tk_at 177 (by decide +kernel) rfl
theorem tw_227 : Cond.classLink RX10 40 RX6 ∈ Tk := tk_at 227 (by decide +kernel) rfl
theorem tw_228 : Cond.instantiable RX6 3 ∈ Tk := tk_at 228 (by decide +kernel) rfl
theorem tw_229 : Cond.methodLinkNest RX10 42 yX6_init "SyntaxRepair" ∈ Tk := tk_at 229 (by decide +kernel) rfl
theorem tw_232 : Cond.methodLink RX6 3 Lib.objectInit ∈ Tk := tk_at 232 (by decide +kernel) rfl
theorem tw_246 : Cond.classLink RX10 47 RX2 ∈ Tk := tk_at 246 (by decide +kernel) rfl
theorem tw_247 : Cond.instantiable RX2 2 ∈ Tk := tk_at 247 (by decide +kernel) rfl
theorem tw_248 : Cond.methodLinkNest RX10 49 yX2_init "SyntaxRepair" ∈ Tk := tk_at 248 (by decide +kernel) rfl
theorem tw_251 : Cond.methodLink RX2 3 Lib.objectInit ∈ Tk := tk_at 251 (by decide +kernel) rfl
theorem tw_263 : Cond.methodLink RX10 58 yX0_setAccepting ∈ Tk := tk_at 263 (by decide +kernel) rfl
theorem tw_813 : Cond.methodLink RX11 1 Lib.objectInit ∈ Tk := tk_at 813 (by decide +kernel) rfl
theorem kx_0_1 : ∀ c, c < 156 → kd c = 0 → kd (c + 1) = 20 := by decide +kernel
theorem kx_0_2 : ∀ c, c < 156 → kd c = 0 → kd (c + 2) = 20 := by decide +kernel
theorem kx_0_3 : ∀ c, c < 156 → kd c = 0 → kd (c + 3) = 20 := by decide +kernel
theorem kx_0_4 : ∀ c, c < 156 → kd c = 0 → kd (c + 4) = 20 := by decide +kernel
theorem kx_1_1 : ∀ c, c < 156 → kd c = 1 → kd (c + 1) = 20 := by decide +kernel
theorem kx_3_1 : ∀ c, c < 156 → kd c = 3 → kd (c + 1) = 20 := by decide +kernel
theorem kx_3_2 : ∀ c, c < 156 → kd c = 3 → kd (c + 2) = 8 := by decide +kernel
theorem kx_4_1 : ∀ c, c < 156 → kd c = 4 → kd (c + 1) = 21 := by decide +kernel
theorem kx_4_2 : ∀ c, c < 156 → kd c = 4 → kd (c + 2) = 8 := by decide +kernel
theorem kx_4_12 : ∀ c, c < 156 → kd c = 4 → kd (c + 12) = 8 := by decide +kernel
theorem kx_4_22 : ∀ c, c < 156 → kd c = 4 → kd (c + 22) = 8 := by decide +kernel
theorem kx_4_32 : ∀ c, c < 156 → kd c = 4 → kd (c + 32) = 8 := by decide +kernel
theorem kx_4_42 : ∀ c, c < 156 → kd c = 4 → kd (c + 42) = 8 := by decide +kernel
theorem kx_4_52 : ∀ c, c < 156 → kd c = 4 → kd (c + 52) = 8 := by decide +kernel
theorem kx_4_62 : ∀ c, c < 156 → kd c = 4 → kd (c + 62) = 8 := by decide +kernel
theorem kx_4_72 : ∀ c, c < 156 → kd c = 4 → kd (c + 72) = 8 := by decide +kernel
theorem kx_5_1 : ∀ c, c < 156 → kd c = 5 → kd (c + 1) = 20 := by decide +kernel
theorem kx_5_2 : ∀ c, c < 156 → kd c = 5 → kd (c + 2) = 20 := by decide +kernel
theorem kx_5_3 : ∀ c, c < 156 → kd c = 5 → kd (c + 3) = 20 := by decide +kernel
theorem kx_6_1 : ∀ c, c < 156 → kd c = 6 → kd (c + 1) = 20 := by decide +kernel
theorem kx_6_2 : ∀ c, c < 156 → kd c = 6 → kd (c + 2) = 20 := by decide +kernel
theorem kx_7_1 : ∀ c, c < 156 → kd c = 7 → kd (c + 1) = 8 := by decide +kernel
theorem kx_7_11 : ∀ c, c < 156 → kd c = 7 → kd (c + 11) = 5 := by decide +kernel
theorem kx_7_15 : ∀ c, c < 156 → kd c = 7 → kd (c + 15) = 20 := by decide +kernel
theorem kx_7_16 : ∀ c, c < 156 → kd c = 7 → kd (c + 16) = 20 := by decide +kernel
theorem kx_7_17 : ∀ c, c < 156 → kd c = 7 → kd (c + 17) = 20 := by decide +kernel
theorem kx_8_1 : ∀ c, c < 156 → kd c = 8 → kd (c + 1) = 0 := by decide +kernel
theorem kx_8_6 : ∀ c, c < 156 → kd c = 8 → kd (c + 6) = 1 := by decide +kernel
theorem kx_8_8 : ∀ c, c < 156 → kd c = 8 → kd (c + 8) = 9 := by decide +kernel
theorem kx_9_1 : ∀ c, c < 156 → kd c = 9 → kd (c + 1) = 20 := by decide +kernel
theorem kx_10_1 : ∀ c, c < 156 → kd c = 10 → kd (c + 1) = 8 := by decide +kernel
theorem kx_10_11 : ∀ c, c < 156 → kd c = 10 → kd (c + 11) = 4 := by decide +kernel
theorem kx_10_93 : ∀ c, c < 156 → kd c = 10 → kd (c + 93) = 3 := by decide +kernel
theorem kx_10_105 : ∀ c, c < 156 → kd c = 10 → kd (c + 105) = 7 := by decide +kernel
theorem kx_10_123 : ∀ c, c < 156 → kd c = 10 → kd (c + 123) = 7 := by decide +kernel
theorem kx_10_141 : ∀ c, c < 156 → kd c = 10 → kd (c + 141) = 6 := by decide +kernel
theorem kx_10_144 : ∀ c, c < 156 → kd c = 10 → kd (c + 144) = 2 := by decide +kernel
theorem kx_11_1 : ∀ c, c < 156 → kd c = 11 → kd (c + 1) = 20 := by decide +kernel
theorem kx_11_2 : ∀ c, c < 156 → kd c = 11 → kd (c + 2) = 20 := by decide +kernel
theorem kx_11_3 : ∀ c, c < 156 → kd c = 11 → kd (c + 3) = 20 := by decide +kernel
theorem kx_11_4 : ∀ c, c < 156 → kd c = 11 → kd (c + 4) = 20 := by decide +kernel
theorem kx_11_5 : ∀ c, c < 156 → kd c = 11 → kd (c + 5) = 20 := by decide +kernel
theorem kx_11_6 : ∀ c, c < 156 → kd c = 11 → kd (c + 6) = 20 := by decide +kernel
theorem kx_11_7 : ∀ c, c < 156 → kd c = 11 → kd (c + 7) = 20 := by decide +kernel
theorem kx_11_8 : ∀ c, c < 156 → kd c = 11 → kd (c + 8) = 20 := by decide +kernel
theorem kx_11_9 : ∀ c, c < 156 → kd c = 11 → kd (c + 9) = 20 := by decide +kernel
theorem kx_11_10 : ∀ c, c < 156 → kd c = 11 → kd (c + 10) = 20 := by decide +kernel
theorem lx_0_1 : ∀ c, c < 156 → kd c = 0 → ln (c + 1) = 6 := by decide +kernel
theorem lx_0_2 : ∀ c, c < 156 → kd c = 0 → ln (c + 2) = 36 := by decide +kernel
theorem lx_0_3 : ∀ c, c < 156 → kd c = 0 → ln (c + 3) = 36 := by decide +kernel
theorem lx_0_4 : ∀ c, c < 156 → kd c = 0 → ln (c + 4) = 36 := by decide +kernel
theorem lx_1_1 : ∀ c, c < 156 → kd c = 1 → ln (c + 1) = 24 := by decide +kernel
theorem lx_3_1 : ∀ c, c < 156 → kd c = 3 → ln (c + 1) = 150 := by decide +kernel
theorem lx_5_1 : ∀ c, c < 156 → kd c = 5 → ln (c + 1) = 576 := by decide +kernel
theorem lx_5_2 : ∀ c, c < 156 → kd c = 5 → ln (c + 2) = 96 := by decide +kernel
theorem lx_5_3 : ∀ c, c < 156 → kd c = 5 → ln (c + 3) = 96 := by decide +kernel
theorem lx_6_1 : ∀ c, c < 156 → kd c = 6 → ln (c + 1) = 1248 := by decide +kernel
theorem lx_6_2 : ∀ c, c < 156 → kd c = 6 → ln (c + 2) = 1248 := by decide +kernel
theorem lx_7_15 : ∀ c, c < 156 → kd c = 7 → ln (c + 15) = 1248 := by decide +kernel
theorem lx_7_16 : ∀ c, c < 156 → kd c = 7 → ln (c + 16) = 1248 := by decide +kernel
theorem lx_7_17 : ∀ c, c < 156 → kd c = 7 → ln (c + 17) = 1248 := by decide +kernel
theorem lx_9_1 : ∀ c, c < 156 → kd c = 9 → ln (c + 1) = 12 := by decide +kernel
theorem lx_11_1 : ∀ c, c < 156 → kd c = 11 → ln (c + 1) = 69 := by decide +kernel
theorem lx_11_2 : ∀ c, c < 156 → kd c = 11 → ln (c + 2) = 69 := by decide +kernel
theorem lx_11_3 : ∀ c, c < 156 → kd c = 11 → ln (c + 3) = 552 := by decide +kernel
theorem lx_11_4 : ∀ c, c < 156 → kd c = 11 → ln (c + 4) = 150 := by decide +kernel
theorem lx_11_5 : ∀ c, c < 156 → kd c = 11 → ln (c + 5) = 1248 := by decide +kernel
theorem lx_11_6 : ∀ c, c < 156 → kd c = 11 → ln (c + 6) = 1248 := by decide +kernel
theorem lx_11_7 : ∀ c, c < 156 → kd c = 11 → ln (c + 7) = 1248 := by decide +kernel
theorem lx_11_8 : ∀ c, c < 156 → kd c = 11 → ln (c + 8) = 1248 := by decide +kernel
theorem lx_11_9 : ∀ c, c < 156 → kd c = 11 → ln (c + 9) = 1248 := by decide +kernel
theorem lx_11_10 : ∀ c, c < 156 → kd c = 11 → ln (c + 10) = 1248 := by decide +kernel
theorem dfl_0 : ∀ j, j < 5 → defaultValue (tyX0 j) = vp_V [.null, .null, .null, .null, .int 0] j := by
  intro j hj
  have : j = 0 ∨ j = 1 ∨ j = 2 ∨ j = 3 ∨ j = 4 := by omega
  rcases this with rfl | rfl | rfl | rfl | rfl <;> rfl
theorem mw_X0_init : MC yX0_init cX0_init 1 0 := ⟨⟨tk_at 36 (by decide +kernel) rfl, tk_at 3 (by decide +kernel) rfl, ⟨by decide +kernel, by decide +kernel⟩, by decide +kernel, by decide⟩, tk_at 35 (by decide +kernel) rfl, rfl⟩
theorem dfl_1 : ∀ j, j < 1 → defaultValue (tyX1 j) = vp_V [.null] j := by
  intro j hj
  have : j = 0 := by omega
  rcases this with rfl <;> rfl
theorem mw_X1_init : MC yX1_init cX1_init 1 0 := ⟨⟨tk_at 61 (by decide +kernel) rfl, tk_at 4 (by decide +kernel) rfl, ⟨by decide +kernel, by decide +kernel⟩, by decide +kernel, by decide⟩, tk_at 60 (by decide +kernel) rfl, rfl⟩
theorem dfl_2 : ∀ j, j < 2 → defaultValue (tyX2 j) = vp_V [.int 0, .int 0] j := by
  intro j hj
  have : j = 0 ∨ j = 1 := by omega
  rcases this with rfl | rfl <;> rfl
theorem mw_X2_init : MC yX2_init cX2_init 1 0 := ⟨⟨tk_at 250 (by decide +kernel) rfl, tk_at 11 (by decide +kernel) rfl, ⟨by decide +kernel, by decide +kernel⟩, by decide +kernel, by decide⟩, tk_at 249 (by decide +kernel) rfl, rfl⟩
theorem dfl_3 : ∀ j, j < 5 → defaultValue (tyX3 j) = vp_V [.null, .null, .int 0, .int 0, .int 0] j := by
  intro j hj
  have : j = 0 ∨ j = 1 ∨ j = 2 ∨ j = 3 ∨ j = 4 := by omega
  rcases this with rfl | rfl | rfl | rfl | rfl <;> rfl
theorem mw_X3_init : MC yX3_init cX3_init 1 0 := ⟨⟨tk_at 142 (by decide +kernel) rfl, tk_at 7 (by decide +kernel) rfl, ⟨by decide +kernel, by decide +kernel⟩, by decide +kernel, by decide⟩, tk_at 141 (by decide +kernel) rfl, rfl⟩
theorem dfl_4 : ∀ j, j < 3 → defaultValue (tyX4 j) = vp_V [.null, .int 0, .int 0] j := by
  intro j hj
  have : j = 0 ∨ j = 1 ∨ j = 2 := by omega
  rcases this with rfl | rfl | rfl <;> rfl
theorem mw_X4_init : MC yX4_init cX4_init 2 0 := ⟨⟨tk_at 122 (by decide +kernel) rfl, tk_at 6 (by decide +kernel) rfl, ⟨by decide +kernel, by decide +kernel⟩, by decide +kernel, by decide⟩, tk_at 121 (by decide +kernel) rfl, rfl⟩
theorem dfl_5 : ∀ j, j < 4 → defaultValue (tyX5 j) = vp_V [.null, .null, .null, .int 0] j := by
  intro j hj
  have : j = 0 ∨ j = 1 ∨ j = 2 ∨ j = 3 := by omega
  rcases this with rfl | rfl | rfl | rfl <;> rfl
theorem mw_X5_init : MC yX5_init cX5_init 1 0 := ⟨⟨tk_at 176 (by decide +kernel) rfl, tk_at 9 (by decide +kernel) rfl, ⟨by decide +kernel, by decide +kernel⟩, by decide +kernel, by decide⟩, tk_at 175 (by decide +kernel) rfl, rfl⟩
theorem dfl_6 : ∀ j, j < 3 → defaultValue (tyX6 j) = vp_V [.null, .null, .int 0] j := by
  intro j hj
  have : j = 0 ∨ j = 1 ∨ j = 2 := by omega
  rcases this with rfl | rfl | rfl <;> rfl
theorem mw_X6_init : MC yX6_init cX6_init 1 0 := ⟨⟨tk_at 231 (by decide +kernel) rfl, tk_at 10 (by decide +kernel) rfl, ⟨by decide +kernel, by decide +kernel⟩, by decide +kernel, by decide⟩, tk_at 230 (by decide +kernel) rfl, rfl⟩
theorem dfl_7 : ∀ j, j < 11 → defaultValue (tyX7 j) = vp_V [.null, .null, .null, .null, .null, .int 0, .int 0, .int 0, .int 0, .int 0, .int 0] j := by
  intro j hj
  have : j = 0 ∨ j = 1 ∨ j = 2 ∨ j = 3 ∨ j = 4 ∨ j = 5 ∨ j = 6 ∨ j = 7 ∨ j = 8 ∨ j = 9 ∨ j = 10 := by omega
  rcases this with rfl | rfl | rfl | rfl | rfl | rfl | rfl | rfl | rfl | rfl | rfl <;> rfl
theorem mw_X7_init : MC yX7_init cX7_init 1 0 := ⟨⟨tk_at 168 (by decide +kernel) rfl, tk_at 8 (by decide +kernel) rfl, ⟨by decide +kernel, by decide +kernel⟩, by decide +kernel, by decide⟩, tk_at 167 (by decide +kernel) rfl, rfl⟩
theorem dfl_8 : ∀ j, j < 3 → defaultValue (tyX8 j) = vp_V [.null, .null, .null] j := by
  intro j hj
  have : j = 0 ∨ j = 1 ∨ j = 2 := by omega
  rcases this with rfl | rfl | rfl <;> rfl
theorem mw_X8_init : MC yX8_init cX8_init 1 0 := ⟨⟨tk_at 30 (by decide +kernel) rfl, tk_at 2 (by decide +kernel) rfl, ⟨by decide +kernel, by decide +kernel⟩, by decide +kernel, by decide⟩, tk_at 29 (by decide +kernel) rfl, rfl⟩
theorem dfl_9 : ∀ j, j < 2 → defaultValue (tyX9 j) = vp_V [.null, .int 0] j := by
  intro j hj
  have : j = 0 ∨ j = 1 := by omega
  rcases this with rfl | rfl <;> rfl
theorem mw_X9_init : MC yX9_init cX9_init 1 0 := ⟨⟨tk_at 85 (by decide +kernel) rfl, tk_at 5 (by decide +kernel) rfl, ⟨by decide +kernel, by decide +kernel⟩, by decide +kernel, by decide⟩, tk_at 84 (by decide +kernel) rfl, rfl⟩
theorem dfl_10 : ∀ j, j < 7 → defaultValue (tyX10 j) = vp_V [.null, .null, .null, .null, .null, .null, .null] j := by
  intro j hj
  have : j = 0 ∨ j = 1 ∨ j = 2 ∨ j = 3 ∨ j = 4 ∨ j = 5 ∨ j = 6 := by omega
  rcases this with rfl | rfl | rfl | rfl | rfl | rfl | rfl <;> rfl
theorem mw_X10_init : MC yX10_init cX10_init 1 0 := ⟨⟨tk_at 22 (by decide +kernel) rfl, tk_at 1 (by decide +kernel) rfl, ⟨by decide +kernel, by decide +kernel⟩, by decide +kernel, by decide⟩, tk_at 21 (by decide +kernel) rfl, rfl⟩
theorem dfl_11 : ∀ j, j < 24 → defaultValue (tyX11 j) = vp_V [.null, .null, .null, .int 0, .null, .int 0, .int 0, .int 0, .int 0, .long 0, .int 0, .int 0, .int 0, .null, .null, .null, .int 0, .int 0, .int 0, .null, .null, .int 0, .int 0, .null] j := by
  intro j hj
  have : j = 0 ∨ j = 1 ∨ j = 2 ∨ j = 3 ∨ j = 4 ∨ j = 5 ∨ j = 6 ∨ j = 7 ∨ j = 8 ∨ j = 9 ∨ j = 10 ∨ j = 11 ∨ j = 12 ∨ j = 13 ∨ j = 14 ∨ j = 15 ∨ j = 16 ∨ j = 17 ∨ j = 18 ∨ j = 19 ∨ j = 20 ∨ j = 21 ∨ j = 22 ∨ j = 23 := by omega
  rcases this with rfl | rfl | rfl | rfl | rfl | rfl | rfl | rfl | rfl | rfl | rfl | rfl | rfl | rfl | rfl | rfl | rfl | rfl | rfl | rfl | rfl | rfl | rfl | rfl <;> rfl
theorem mw_X11_init : MC yX11_init cX11_init 1 0 := ⟨⟨tk_at 812 (by decide +kernel) rfl, tk_at 12 (by decide +kernel) rfl, ⟨by decide +kernel, by decide +kernel⟩, by decide +kernel, by decide⟩, tk_at 811 (by decide +kernel) rfl, rfl⟩
def f_Au_init (fu : Nat) (post : Mm → Prop) (t : Nat) (M : Mm) : Prop :=
  (∀ j, M (t + 1) j = 0) ∧ (∀ j, M (t + 2) j = 0) ∧ (∀ j, M (t + 3) j = 0) ∧ (∀ j, M (t + 4) j = 0) ∧ (∀ j, M t j = 0) ∧ ∀ M1, M1 = up M t 4 1 → post M1
set_option maxRecDepth 100000 in
set_option maxHeartbeats 4000000 in
theorem c_Au_init (l : Launch) (g : GX) (O : Nat → Option va_E) (fu : Nat) (post : Mm → Prop) (t : Nat) (M : Mm) (hk : kd t = 0) (hO : ∀ c, t ≤ c → O c = none) (h : f_Au_init fu post t M) : Met l yX0_init [Cond.code yX0_init cX0_init 1 none] (rmC 1 4 114) (va_Pc [ob g t] (Wb g (t + 1, va_up O t (some (.inr (0, [.null, .null, .null, .null, .int 0])))) M)) (va_Qv post (Wb g (t + 5, O)) (Af g)) 4 114 (Af g) := by
  refine Ct_c (by decide) rfl rfl (by decide) ?_
  intro X hX hC hname hR
  unfold f_Au_init at h
  refine V_sub (us := [some (ob g t)]) ⟨rfl, trivial⟩ ?_
  refine V_aload_n hC rfl dX0_init_0 ?_
  refine V_objInit hC tw_37 tw_oi1 tw_oi2 (by decide) (Nat.le_of_ble_eq_true rfl) dX0_init_1 ?_
  refine V_aload_n hC rfl dX0_init_4 ?_
  refine V_bipush (v := 6) hC (by decide) dX0_init_5 ?_
  obtain ⟨hz1, h⟩ := h
  refine V_newa (L := 6) hC tw_56 (by decide) (by decide) (by decide) (kx_0_1 t (kd_lt hk (by decide)) hk) (lx_0_1 t (kd_lt hk (by decide)) hk) ((up_va (by omega)).trans (hO _ (by omega))) hz1 ⟨by rw [hR.1]; exact Nat.le_of_ble_eq_true rfl, by rw [hR.2]; exact Nat.le_of_ble_eq_true rfl⟩ dX0_init_7 ?_
  refine V_putO hC hname (by omega) (ci := 0) rfl iw_0 tyX0 tyX0_ok nmX0 0 (by decide) rfl rfl (ty := .array .int) (by decide +kernel) rfl rfl (Nat.le_of_ble_eq_true rfl) tw_38 dX0_init_9 ?_
  refine V_w (w' := (t + 2, (va_up O t (some (.inr (0, [ob g (t + 1), .null, .null, .null, .int 0])))))) rfl ?_
  refine V_aload_n hC rfl dX0_init_12 ?_
  refine V_bipush (v := 36) hC (by decide) dX0_init_13 ?_
  obtain ⟨hz2, h⟩ := h
  refine V_newa (L := 36) hC tw_56 (by decide) (by decide) (by decide) (kx_0_2 t (kd_lt hk (by decide)) hk) (lx_0_2 t (kd_lt hk (by decide)) hk) ((up_va (by omega)).trans (hO _ (by omega))) hz2 ⟨by rw [hR.1]; exact Nat.le_of_ble_eq_true rfl, by rw [hR.2]; exact Nat.le_of_ble_eq_true rfl⟩ dX0_init_15 ?_
  refine V_putO hC hname (by omega) (ci := 0) rfl iw_0 tyX0 tyX0_ok nmX0 1 (by decide) rfl rfl (ty := .array .int) (by decide +kernel) rfl rfl (Nat.le_of_ble_eq_true rfl) tw_39 dX0_init_17 ?_
  refine V_w (w' := (t + 3, (va_up O t (some (.inr (0, [ob g (t + 1), ob g (t + 2), .null, .null, .int 0])))))) rfl ?_
  refine V_aload_n hC rfl dX0_init_20 ?_
  refine V_bipush (v := 36) hC (by decide) dX0_init_21 ?_
  obtain ⟨hz3, h⟩ := h
  refine V_newa (L := 36) hC tw_56 (by decide) (by decide) (by decide) (kx_0_3 t (kd_lt hk (by decide)) hk) (lx_0_3 t (kd_lt hk (by decide)) hk) ((up_va (by omega)).trans (hO _ (by omega))) hz3 ⟨by rw [hR.1]; exact Nat.le_of_ble_eq_true rfl, by rw [hR.2]; exact Nat.le_of_ble_eq_true rfl⟩ dX0_init_23 ?_
  refine V_putO hC hname (by omega) (ci := 0) rfl iw_0 tyX0 tyX0_ok nmX0 2 (by decide) rfl rfl (ty := .array .int) (by decide +kernel) rfl rfl (Nat.le_of_ble_eq_true rfl) tw_40 dX0_init_25 ?_
  refine V_w (w' := (t + 4, (va_up O t (some (.inr (0, [ob g (t + 1), ob g (t + 2), ob g (t + 3), .null, .int 0])))))) rfl ?_
  refine V_aload_n hC rfl dX0_init_28 ?_
  refine V_bipush (v := 36) hC (by decide) dX0_init_29 ?_
  obtain ⟨hz4, h⟩ := h
  refine V_newa (L := 36) hC tw_56 (by decide) (by decide) (by decide) (kx_0_4 t (kd_lt hk (by decide)) hk) (lx_0_4 t (kd_lt hk (by decide)) hk) ((up_va (by omega)).trans (hO _ (by omega))) hz4 ⟨by rw [hR.1]; exact Nat.le_of_ble_eq_true rfl, by rw [hR.2]; exact Nat.le_of_ble_eq_true rfl⟩ dX0_init_31 ?_
  refine V_putO hC hname (by omega) (ci := 0) rfl iw_0 tyX0 tyX0_ok nmX0 3 (by decide) rfl rfl (ty := .array .int) (by decide +kernel) rfl rfl (Nat.le_of_ble_eq_true rfl) tw_41 dX0_init_33 ?_
  refine V_w (w' := (t + 5, (va_up O t (some (.inr (0, [ob g (t + 1), ob g (t + 2), ob g (t + 3), ob g (t + 4), .int 0])))))) rfl ?_
  obtain ⟨hz0, h⟩ := h
  refine V_fin (hO t (Nat.le_refl t)) (fin_eq (by rw [ent_0 hk]; simp [hz0])) ?_
  refine V_aload_n hC rfl dX0_init_36 ?_
  refine V_iconst (v := 1) hC (by decide) dX0_init_37 ?_
  refine pf_0_4 hC (ok_new hk rfl hO) tw_42 dX0_init_38 ?_
  obtain ⟨M1, eM1⟩ : ∃ z, z = up M t 4 1 := ⟨_, rfl⟩
  replace h := h M1 eM1
  refine V_mem eM1 ?_
  exact V_vret hC h dX0_init_41
def f_Co_init (fu : Nat) (post : Mm → Prop) (t : Nat) (M : Mm) : Prop :=
  (∀ j, M (t + 1) j = 0) ∧ f_Co_setAllToOne fu (fun M1 => post M1) t M
set_option maxRecDepth 100000 in
set_option maxHeartbeats 4000000 in
theorem c_Co_init (l : Launch) (g : GX) (O : Nat → Option va_E) (fu : Nat) (post : Mm → Prop) (t : Nat) (M : Mm) (hk : kd t = 1) (hO : ∀ c, t ≤ c → O c = none) (h : f_Co_init fu post t M) : Met l yX1_init [Cond.code yX1_init cX1_init 1 none] (rmC 3 1 24) (va_Pc [ob g t] (Wb g (t + 1, va_up O t (some (.inr (1, [.null])))) M)) (va_Qv post (Wb g (t + 2, O)) (Af g)) 1 24 (Af g) := by
  refine Ct_c (by decide) rfl rfl (by decide) ?_
  intro X hX hC hname hR
  unfold f_Co_init at h
  refine V_sub (us := [some (ob g t)]) ⟨rfl, trivial⟩ ?_
  refine V_aload_n hC rfl dX1_init_0 ?_
  refine V_objInit hC tw_62 tw_oi1 tw_oi2 (by decide) (Nat.le_of_ble_eq_true rfl) dX1_init_1 ?_
  refine V_aload_n hC rfl dX1_init_4 ?_
  refine V_bipush (v := 24) hC (by decide) dX1_init_5 ?_
  obtain ⟨hz1, h⟩ := h
  refine V_newa (L := 24) hC tw_56 (by decide) (by decide) (by decide) (kx_1_1 t (kd_lt hk (by decide)) hk) (lx_1_1 t (kd_lt hk (by decide)) hk) ((up_va (by omega)).trans (hO _ (by omega))) hz1 ⟨by rw [hR.1]; exact Nat.le_of_ble_eq_true rfl, by rw [hR.2]; exact Nat.le_of_ble_eq_true rfl⟩ dX1_init_7 ?_
  refine V_putO hC hname (by omega) (ci := 1) rfl iw_1 tyX1 tyX1_ok nmX1 0 (by decide) rfl rfl (ty := .array .int) (by decide +kernel) rfl rfl (Nat.le_of_ble_eq_true rfl) tw_77 dX1_init_9 ?_
  refine V_w (w' := (t + 2, (va_up O t (some (.inr (1, [ob g (t + 1)])))))) rfl ?_
  refine V_fin (hO t (Nat.le_refl t)) (fin_eq (by rw [ent_1 hk])) ?_
  refine V_aload_n hC rfl dX1_init_12 ?_
  refine V_callv (As := []) hC (c_Co_setAllToOne X.2.1 g _ fu _ t M (ok_new hk rfl hO) h) mw_X1_setAllToOne (by decide) tw_63 (ok_new hk rfl hO) (by decide) rfl rfl rfl (Nat.le_of_ble_eq_true rfl) ⟨by rw [hR.1]; exact Nat.le_of_ble_eq_true rfl, by rw [hR.2]; exact Nat.le_of_ble_eq_true rfl⟩ dX1_init_13 (fun M1 h => ?_)
  exact V_vret hC h dX1_init_16
def f_Cu_init (fu : Nat) (post : Mm → Prop) (t : Nat) (M : Mm) : Prop :=
  (∀ j, M t j = 0) ∧ ∀ M1, M1 = up M t 1 1 → post M1
set_option maxRecDepth 100000 in
set_option maxHeartbeats 4000000 in
theorem c_Cu_init (l : Launch) (g : GX) (O : Nat → Option va_E) (fu : Nat) (post : Mm → Prop) (t : Nat) (M : Mm) (hk : kd t = 2) (hO : ∀ c, t ≤ c → O c = none) (h : f_Cu_init fu post t M) : Met l yX2_init [Cond.code yX2_init cX2_init 1 none] (rmC 1 0 0) (va_Pc [ob g t] (Wb g (t + 1, va_up O t (some (.inr (2, [.int 0, .int 0])))) M)) (va_Qv post (Wb g (t + 1, O)) (Af g)) 0 0 (Af g) := by
  refine Ct_c (by decide) rfl rfl (by decide) ?_
  intro X hX hC hname hR
  unfold f_Cu_init at h
  refine V_sub (us := [some (ob g t)]) ⟨rfl, trivial⟩ ?_
  refine V_aload_n hC rfl dX2_init_0 ?_
  refine V_objInit hC tw_251 tw_oi1 tw_oi2 (by decide) (Nat.le_of_ble_eq_true rfl) dX2_init_1 ?_
  obtain ⟨hz0, h⟩ := h
  refine V_fin (hO t (Nat.le_refl t)) (fin_eq (by rw [ent_2 hk]; simp [hz0])) ?_
  refine V_aload_n hC rfl dX2_init_4 ?_
  refine V_iconst (v := 1) hC (by decide) dX2_init_5 ?_
  refine pf_2_1 hC (ok_new hk rfl hO) tw_255 dX2_init_6 ?_
  obtain ⟨M1, eM1⟩ : ∃ z, z = up M t 1 1 := ⟨_, rfl⟩
  replace h := h M1 eM1
  refine V_mem eM1 ?_
  exact V_vret hC h dX2_init_9
def f_To_init (fu : Nat) (post : Mm → Prop) (t : Nat) (M : Mm) : Prop :=
  (∀ j, M (t + 1) j = 0) ∧ (∀ j, M t j = 0) ∧ post M
set_option maxRecDepth 100000 in
set_option maxHeartbeats 4000000 in
theorem c_To_init (l : Launch) (g : GX) (O : Nat → Option va_E) (fu : Nat) (post : Mm → Prop) (t : Nat) (M : Mm) (hk : kd t = 9) (hO : ∀ c, t ≤ c → O c = none) (h : f_To_init fu post t M) : Met l yX9_init [Cond.code yX9_init cX9_init 1 none] (rmC 1 1 12) (va_Pc [ob g t] (Wb g (t + 1, va_up O t (some (.inr (9, [.null, .int 0])))) M)) (va_Qv post (Wb g (t + 2, O)) (Af g)) 1 12 (Af g) := by
  refine Ct_c (by decide) rfl rfl (by decide) ?_
  intro X hX hC hname hR
  unfold f_To_init at h
  refine V_sub (us := [some (ob g t)]) ⟨rfl, trivial⟩ ?_
  refine V_aload_n hC rfl dX9_init_0 ?_
  refine V_objInit hC tw_86 tw_oi1 tw_oi2 (by decide) (Nat.le_of_ble_eq_true rfl) dX9_init_1 ?_
  refine V_aload_n hC rfl dX9_init_4 ?_
  refine V_bipush (v := 12) hC (by decide) dX9_init_5 ?_
  obtain ⟨hz1, h⟩ := h
  refine V_newa (L := 12) hC tw_56 (by decide) (by decide) (by decide) (kx_9_1 t (kd_lt hk (by decide)) hk) (lx_9_1 t (kd_lt hk (by decide)) hk) ((up_va (by omega)).trans (hO _ (by omega))) hz1 ⟨by rw [hR.1]; exact Nat.le_of_ble_eq_true rfl, by rw [hR.2]; exact Nat.le_of_ble_eq_true rfl⟩ dX9_init_7 ?_
  refine V_putO hC hname (by omega) (ci := 9) rfl iw_9 tyX9 tyX9_ok nmX9 0 (by decide) rfl rfl (ty := .array .int) (by decide +kernel) rfl rfl (Nat.le_of_ble_eq_true rfl) tw_87 dX9_init_9 ?_
  refine V_w (w' := (t + 2, (va_up O t (some (.inr (9, [ob g (t + 1), .int 0])))))) rfl ?_
  obtain ⟨hz0, h⟩ := h
  refine V_fin (hO t (Nat.le_refl t)) (fin_eq (by rw [ent_9 hk]; simp [hz0])) ?_
  exact V_vret hC h dX9_init_12
def f_Si_init (fu : Nat) (post : Mm → Prop) (t : Nat) (M : Mm) : Prop :=
  f_Au_init fu (fun M1 => f_Co_init fu (fun M2 => f_To_init fu (fun M3 => post M3) (t + 8) M2) (t + 6) M1) (t + 1) M
set_option maxRecDepth 100000 in
set_option maxHeartbeats 4000000 in
theorem c_Si_init (l : Launch) (g : GX) (O : Nat → Option va_E) (fu : Nat) (post : Mm → Prop) (t : Nat) (M : Mm) (hk : kd t = 8) (hO : ∀ c, t ≤ c → O c = none) (h : f_Si_init fu post t M) : Met l yX8_init [Cond.code yX8_init cX8_init 1 none] (rmC 4 9 158) (va_Pc [ob g t] (Wb g (t + 1, va_up O t (some (.inr (8, [.null, .null, .null])))) M)) (va_Qv post (Wb g (t + 10, O)) (Af g)) 9 158 (Af g) := by
  refine Ct_c (by decide) rfl rfl (by decide) ?_
  intro X hX hC hname hR
  unfold f_Si_init at h
  refine V_sub (us := [some (ob g t)]) ⟨rfl, trivial⟩ ?_
  refine V_aload_n hC rfl dX8_init_0 ?_
  refine V_objInit hC tw_31 tw_oi1 tw_oi2 (by decide) (Nat.le_of_ble_eq_true rfl) dX8_init_1 ?_
  refine V_aload_n hC rfl dX8_init_4 ?_
  refine V_new (ci := 0) (fs := [.null, .null, .null, .null, .int 0]) hC rfl iw_0 tyX0 tyX0_ok tw_32 tw_33 tw_3 dfl_0 ⟨by rw [hR.1]; exact Nat.le_of_ble_eq_true rfl, by rw [hR.2]; exact Nat.le_of_ble_eq_true rfl⟩ dX8_init_5 ?_
  refine V_dup hC rfl dX8_init_8 ?_
  refine V_icallN hC (c_Au_init X.2.1 g (va_up O t (some (.inr (8, [.null, .null, .null])))) fu _ (t + 1) M (kx_8_1 t (kd_lt hk (by decide)) hk) (fun c hc => (up_va (by omega)).trans (hO c (by omega))) h) mw_X0_init (by decide) tw_34 (Nat.le_of_ble_eq_true rfl) ⟨by rw [hR.1]; exact Nat.le_of_ble_eq_true rfl, by rw [hR.2]; exact Nat.le_of_ble_eq_true rfl⟩ dX8_init_9 (fun M1 h => ?_)
  refine V_w (w' := (t + 6, (va_up O t (some (.inr (8, [.null, .null, .null])))))) rfl ?_
  refine V_putO hC hname (by omega) (ci := 8) rfl iw_8 tyX8 tyX8_ok nmX8 0 (by decide) rfl rfl (ty := .object "SyntaxRepair$Automaton") (by decide +kernel) rfl rfl (Nat.le_of_ble_eq_true rfl) tw_98 dX8_init_12 ?_
  refine V_w (w' := (t + 6, (va_up O t (some (.inr (8, [ob g (t + 1), .null, .null])))))) rfl ?_
  refine V_aload_n hC rfl dX8_init_15 ?_
  refine V_new (ci := 1) (fs := [.null]) hC rfl iw_1 tyX1 tyX1_ok tw_57 tw_58 tw_4 dfl_1 ⟨by rw [hR.1]; exact Nat.le_of_ble_eq_true rfl, by rw [hR.2]; exact Nat.le_of_ble_eq_true rfl⟩ dX8_init_16 ?_
  refine V_dup hC rfl dX8_init_19 ?_
  refine V_icall hC (c_Co_init X.2.1 g (va_up O t (some (.inr (8, [ob g (t + 1), .null, .null])))) fu _ (t + 6) M1 (kx_8_6 t (kd_lt hk (by decide)) hk) (fun c hc => (up_va (by omega)).trans (hO c (by omega))) h) mw_X1_init (by decide) tw_59 (Nat.le_of_ble_eq_true rfl) ⟨by rw [hR.1]; exact Nat.le_of_ble_eq_true rfl, by rw [hR.2]; exact Nat.le_of_ble_eq_true rfl⟩ dX8_init_20 (fun M2 h => ?_)
  refine V_w (w' := (t + 8, (va_up O t (some (.inr (8, [ob g (t + 1), .null, .null])))))) rfl ?_
  refine V_putO hC hname (by omega) (ci := 8) rfl iw_8 tyX8 tyX8_ok nmX8 1 (by decide) rfl rfl (ty := .object "SyntaxRepair$Costs") (by decide +kernel) rfl rfl (Nat.le_of_ble_eq_true rfl) tw_103 dX8_init_23 ?_
  refine V_w (w' := (t + 8, (va_up O t (some (.inr (8, [ob g (t + 1), ob g (t + 6), .null])))))) rfl ?_
  refine V_aload_n hC rfl dX8_init_26 ?_
  refine V_new (ci := 9) (fs := [.null, .int 0]) hC rfl iw_9 tyX9 tyX9_ok tw_81 tw_82 tw_5 dfl_9 ⟨by rw [hR.1]; exact Nat.le_of_ble_eq_true rfl, by rw [hR.2]; exact Nat.le_of_ble_eq_true rfl⟩ dX8_init_27 ?_
  refine V_dup hC rfl dX8_init_30 ?_
  refine V_icallN hC (c_To_init X.2.1 g (va_up O t (some (.inr (8, [ob g (t + 1), ob g (t + 6), .null])))) fu _ (t + 8) M2 (kx_8_8 t (kd_lt hk (by decide)) hk) (fun c hc => (up_va (by omega)).trans (hO c (by omega))) h) mw_X9_init (by decide) tw_83 (Nat.le_of_ble_eq_true rfl) ⟨by rw [hR.1]; exact Nat.le_of_ble_eq_true rfl, by rw [hR.2]; exact Nat.le_of_ble_eq_true rfl⟩ dX8_init_31 (fun M3 h => ?_)
  refine V_w (w' := (t + 10, (va_up O t (some (.inr (8, [ob g (t + 1), ob g (t + 6), .null])))))) rfl ?_
  refine V_putO hC hname (by omega) (ci := 8) rfl iw_8 tyX8 tyX8_ok nmX8 2 (by decide) rfl rfl (ty := .object "SyntaxRepair$Tokens") (by decide +kernel) rfl rfl (Nat.le_of_ble_eq_true rfl) tw_107 dX8_init_34 ?_
  refine V_w (w' := (t + 10, (va_up O t (some (.inr (8, [ob g (t + 1), ob g (t + 6), ob g (t + 8)])))))) rfl ?_
  refine V_fin (hO t (Nat.le_refl t)) (fin_eq (by rw [ent_8 hk])) ?_
  exact V_vret hC h dX8_init_37
def f_Gt_init (fu : Nat) (post : Mm → Prop) (t : Nat) (M : Mm) : Prop :=
  (∀ j, M (t + 1) j = 0) ∧ f_Si_init fu (fun M1 => (∀ j, M1 t j = 0) ∧ post M1) (t + 2) M
set_option maxRecDepth 100000 in
set_option maxHeartbeats 4000000 in
theorem c_Gt_init (l : Launch) (g : GX) (O : Nat → Option va_E) (fu : Nat) (post : Mm → Prop) (t : Nat) (M : Mm) (hk : kd t = 3) (hO : ∀ c, t ≤ c → O c = none) (h : f_Gt_init fu post t M) : Met l yX3_init [Cond.code yX3_init cX3_init 1 none] (rmC 5 11 311) (va_Pc [ob g t] (Wb g (t + 1, va_up O t (some (.inr (3, [.null, .null, .int 0, .int 0, .int 0])))) M)) (va_Qv post (Wb g (t + 12, O)) (Af g)) 11 311 (Af g) := by
  refine Ct_c (by decide) rfl rfl (by decide) ?_
  intro X hX hC hname hR
  unfold f_Gt_init at h
  refine V_sub (us := [some (ob g t)]) ⟨rfl, trivial⟩ ?_
  refine V_aload_n hC rfl dX3_init_0 ?_
  refine V_objInit hC tw_143 tw_oi1 tw_oi2 (by decide) (Nat.le_of_ble_eq_true rfl) dX3_init_1 ?_
  refine V_aload_n hC rfl dX3_init_4 ?_
  refine V_sipush (v := 150) hC (by decide) dX3_init_5 ?_
  obtain ⟨hz1, h⟩ := h
  refine V_newa (L := 150) hC tw_56 (by decide) (by decide) (by decide) (kx_3_1 t (kd_lt hk (by decide)) hk) (lx_3_1 t (kd_lt hk (by decide)) hk) ((up_va (by omega)).trans (hO _ (by omega))) hz1 ⟨by rw [hR.1]; exact Nat.le_of_ble_eq_true rfl, by rw [hR.2]; exact Nat.le_of_ble_eq_true rfl⟩ dX3_init_8 ?_
  refine V_putO hC hname (by omega) (ci := 3) rfl iw_3 tyX3 tyX3_ok nmX3 0 (by decide) rfl rfl (ty := .array .int) (by decide +kernel) rfl rfl (Nat.le_of_ble_eq_true rfl) tw_146 dX3_init_10 ?_
  refine V_w (w' := (t + 2, (va_up O t (some (.inr (3, [ob g (t + 1), .null, .int 0, .int 0, .int 0])))))) rfl ?_
  refine V_aload_n hC rfl dX3_init_13 ?_
  refine V_new (ci := 8) (fs := [.null, .null, .null]) hC rfl iw_8 tyX8 tyX8_ok tw_144 tw_27 tw_2 dfl_8 ⟨by rw [hR.1]; exact Nat.le_of_ble_eq_true rfl, by rw [hR.2]; exact Nat.le_of_ble_eq_true rfl⟩ dX3_init_14 ?_
  refine V_dup hC rfl dX3_init_17 ?_
  refine V_icallN hC (c_Si_init X.2.1 g (va_up O t (some (.inr (3, [ob g (t + 1), .null, .int 0, .int 0, .int 0])))) fu _ (t + 2) M (kx_3_2 t (kd_lt hk (by decide)) hk) (fun c hc => (up_va (by omega)).trans (hO c (by omega))) h) mw_X8_init (by decide) tw_145 (Nat.le_of_ble_eq_true rfl) ⟨by rw [hR.1]; exact Nat.le_of_ble_eq_true rfl, by rw [hR.2]; exact Nat.le_of_ble_eq_true rfl⟩ dX3_init_18 (fun M1 h => ?_)
  refine V_w (w' := (t + 12, (va_up O t (some (.inr (3, [ob g (t + 1), .null, .int 0, .int 0, .int 0])))))) rfl ?_
  refine V_putO hC hname (by omega) (ci := 3) rfl iw_3 tyX3 tyX3_ok nmX3 1 (by decide) rfl rfl (ty := .object "SyntaxRepair$Situation") (by decide +kernel) rfl rfl (Nat.le_of_ble_eq_true rfl) tw_147 dX3_init_21 ?_
  refine V_w (w' := (t + 12, (va_up O t (some (.inr (3, [ob g (t + 1), ob g (t + 2), .int 0, .int 0, .int 0])))))) rfl ?_
  obtain ⟨hz0, h⟩ := h
  refine V_fin (hO t (Nat.le_refl t)) (fin_eq (by rw [ent_3 hk]; simp [hz0])) ?_
  exact V_vret hC h dX3_init_24
def f_Hi_init (fu : Nat) (post : Mm → Prop) (t : Nat) (M : Mm) : Prop :=
  f_Si_init fu (fun M1 => f_Si_init fu (fun M2 => f_Si_init fu (fun M3 => f_Si_init fu (fun M4 => f_Si_init fu (fun M5 => f_Si_init fu (fun M6 => f_Si_init fu (fun M7 => f_Si_init fu (fun M8 => (∀ j, M8 t j = 0) ∧ post M8) (t + 72) M7) (t + 62) M6) (t + 52) M5) (t + 42) M4) (t + 32) M3) (t + 22) M2) (t + 12) M1) (t + 2) M
set_option maxRecDepth 100000 in
set_option maxHeartbeats 4000000 in
theorem c_Hi_init (l : Launch) (g : GX) (O : Nat → Option va_E) (fu : Nat) (post : Mm → Prop) (t : Nat) (M : Mm) (hk : kd t = 4) (hO : ∀ c, t ≤ c → O c = none) (h : f_Hi_init fu post t M) : Met l yX4_init [Cond.code yX4_init cX4_init 2 none] (rmC 5 81 1296) (va_Pc [ob g t] (Wb g (t + 1, va_up O t (some (.inr (4, [.null, .int 0, .int 0])))) M)) (va_Qv post (Wb g (t + 82, O)) (Af g)) 81 1296 (Af g) := by
  refine Ct_c (by decide) rfl rfl (by decide) ?_
  intro X hX hC hname hR
  unfold f_Hi_init at h
  refine V_sub (us := [some (ob g t), none]) ⟨rfl, trivial⟩ ?_
  refine V_aload_n hC rfl dX4_init_0 ?_
  refine V_objInit hC tw_123 tw_oi1 tw_oi2 (by decide) (Nat.le_of_ble_eq_true rfl) dX4_init_1 ?_
  refine V_aload_n hC rfl dX4_init_4 ?_
  refine V_bipush (v := 8) hC (by decide) dX4_init_5 ?_
  refine V_newq (L := 8) hC tw_124 (by decide) (by decide) (by decide) ⟨by rw [hR.1]; exact Nat.le_of_ble_eq_true rfl, by rw [hR.2]; exact Nat.le_of_ble_eq_true rfl⟩ dX4_init_7 ?_
  have kd_r := kx_4_1 t (kd_lt hk (by decide)) hk
  refine V_w (w' := (t + 2, va_up (va_up O (t + 1) (some (.inl (g.2.2.2.1, 8, .inr (.inr (.inr (.inr (fun _ => none)))))))) t (some (.inr (4, [.null, .int 0, .int 0]))))) (by rw [va_sw (by omega)]) ?_
  refine V_putO hC hname (by omega) (ci := 4) rfl iw_4 tyX4 tyX4_ok nmX4 0 (by decide) rfl rfl (ty := .array (.object "SyntaxRepair$Situation")) (by decide +kernel) rfl rfl (Nat.le_of_ble_eq_true rfl) tw_127 dX4_init_10 ?_
  refine V_w (w' := (t + 2, (va_up (va_up O t (some (.inr (4, [ob g (t + 1), .int 0, .int 0])))) (t + 1) (some (.inl (g.2.2.2.1, 8, .inr (.inr (.inr (.inr (fun _ => none)))))))))) (by rw [va_sw (by omega)]; rfl) ?_
  refine V_iconst (v := 0) hC (by decide) dX4_init_13 ?_
  refine V_istore_n hC (by decide) dX4_init_14 ?_
  refine V_iload_n hC rfl dX4_init_15 ?_
  refine V_aload_n hC rfl dX4_init_16 ?_
  refine V_getO (ci := 4) hC (by omega) ((up_va (by omega)).trans up_vs) rfl iw_4 0 (by decide) rfl tw_127 dX4_init_17 ?_
  refine V_qlenO hC (by omega) up_vs (v := 8) rfl dX4_init_20 ?_
  refine V_icmp_ge (tgt := 43) hC dX4_init_21 (by decide) (fun b => absurd b (by decide)) (fun b => ?_)
  refine V_aload_n hC rfl dX4_init_24 ?_
  refine V_getO (ci := 4) hC (by omega) ((up_va (by omega)).trans up_vs) rfl iw_4 0 (by decide) rfl tw_127 dX4_init_25 ?_
  refine V_iload_n hC rfl dX4_init_28 ?_
  refine V_new (ci := 8) (fs := [.null, .null, .null]) hC rfl iw_8 tyX8 tyX8_ok tw_124 tw_27 tw_2 dfl_8 ⟨by rw [hR.1]; exact Nat.le_of_ble_eq_true rfl, by rw [hR.2]; exact Nat.le_of_ble_eq_true rfl⟩ dX4_init_29 ?_
  refine V_dup hC rfl dX4_init_32 ?_
  refine V_icallN hC (c_Si_init X.2.1 g (va_up (va_up O t (some (.inr (4, [ob g (t + 1), .int 0, .int 0])))) (t + 1) (some (.inl (g.2.2.2.1, 8, .inr (.inr (.inr (.inr (fun _ => none)))))))) fu _ (t + 2) M (kx_4_2 t (kd_lt hk (by decide)) hk) (fun c hc => (up_va (by omega)).trans ((up_va (by omega)).trans (hO c (by omega)))) h) mw_X8_init (by decide) tw_126 (Nat.le_of_ble_eq_true rfl) ⟨by rw [hR.1]; exact Nat.le_of_ble_eq_true rfl, by rw [hR.2]; exact Nat.le_of_ble_eq_true rfl⟩ dX4_init_33 (fun M1 h => ?_)
  refine V_w (w' := (t + 12, (va_up (va_up O t (some (.inr (4, [ob g (t + 1), .int 0, .int 0])))) (t + 1) (some (.inl (g.2.2.2.1, 8, .inr (.inr (.inr (.inr (fun _ => none)))))))))) rfl ?_
  refine V_astO hC (by omega) (by omega) (by omega) (kx_4_2 t (kd_lt hk (by decide)) hk) ((up_va (by omega)).trans (hO _ (by omega))) (i := 0) (vp_in_nI (n := 0) (N := 8) (by decide) (by decide)) dX4_init_36 ?_
  refine V_w (w' := (t + 12, (va_up (va_up O t (some (.inr (4, [ob g (t + 1), .int 0, .int 0])))) (t + 1) (some (.inl (g.2.2.2.1, 8, .inr (.inr (.inr (.inr (va_up (fun _ => none) 0 (some (g.1 + (t + 2))))))))))))) rfl ?_
  refine V_iinc (v := 1) hC rfl (by decide) (by decide) dX4_init_37 ?_
  refine V_goto (tgt := 15) hC (by decide) dX4_init_40 ?_
  refine V_iload_n hC rfl dX4_init_15 ?_
  refine V_aload_n hC rfl dX4_init_16 ?_
  refine V_getO (ci := 4) hC (by omega) ((up_va (by omega)).trans up_vs) rfl iw_4 0 (by decide) rfl tw_127 dX4_init_17 ?_
  refine V_qlenO hC (by omega) up_vs (v := 8) rfl dX4_init_20 ?_
  refine V_icmp_ge (tgt := 43) hC dX4_init_21 (by decide) (fun b => absurd b (by decide)) (fun b => ?_)
  refine V_aload_n hC rfl dX4_init_24 ?_
  refine V_getO (ci := 4) hC (by omega) ((up_va (by omega)).trans up_vs) rfl iw_4 0 (by decide) rfl tw_127 dX4_init_25 ?_
  refine V_iload_n hC rfl dX4_init_28 ?_
  refine V_new (ci := 8) (fs := [.null, .null, .null]) hC rfl iw_8 tyX8 tyX8_ok tw_124 tw_27 tw_2 dfl_8 ⟨by rw [hR.1]; exact Nat.le_of_ble_eq_true rfl, by rw [hR.2]; exact Nat.le_of_ble_eq_true rfl⟩ dX4_init_29 ?_
  refine V_dup hC rfl dX4_init_32 ?_
  refine V_icallN hC (c_Si_init X.2.1 g (va_up (va_up O t (some (.inr (4, [ob g (t + 1), .int 0, .int 0])))) (t + 1) (some (.inl (g.2.2.2.1, 8, .inr (.inr (.inr (.inr (va_up (fun _ => none) 0 (some (g.1 + (t + 2))))))))))) fu _ (t + 12) M1 (kx_4_12 t (kd_lt hk (by decide)) hk) (fun c hc => (up_va (by omega)).trans ((up_va (by omega)).trans (hO c (by omega)))) h) mw_X8_init (by decide) tw_126 (Nat.le_of_ble_eq_true rfl) ⟨by rw [hR.1]; exact Nat.le_of_ble_eq_true rfl, by rw [hR.2]; exact Nat.le_of_ble_eq_true rfl⟩ dX4_init_33 (fun M2 h => ?_)
  refine V_w (w' := (t + 22, (va_up (va_up O t (some (.inr (4, [ob g (t + 1), .int 0, .int 0])))) (t + 1) (some (.inl (g.2.2.2.1, 8, .inr (.inr (.inr (.inr (va_up (fun _ => none) 0 (some (g.1 + (t + 2))))))))))))) rfl ?_
  refine V_astO hC (by omega) (by omega) (by omega) (kx_4_12 t (kd_lt hk (by decide)) hk) ((up_va (by omega)).trans (hO _ (by omega))) (i := 1) (vp_in_nI (n := 1) (N := 8) (by decide) (by decide)) dX4_init_36 ?_
  refine V_w (w' := (t + 22, (va_up (va_up O t (some (.inr (4, [ob g (t + 1), .int 0, .int 0])))) (t + 1) (some (.inl (g.2.2.2.1, 8, .inr (.inr (.inr (.inr (va_up (va_up (fun _ => none) 0 (some (g.1 + (t + 2)))) 1 (some (g.1 + (t + 12))))))))))))) rfl ?_
  refine V_iinc (v := 2) hC rfl (by decide) (by decide) dX4_init_37 ?_
  refine V_goto (tgt := 15) hC (by decide) dX4_init_40 ?_
  refine V_iload_n hC rfl dX4_init_15 ?_
  refine V_aload_n hC rfl dX4_init_16 ?_
  refine V_getO (ci := 4) hC (by omega) ((up_va (by omega)).trans up_vs) rfl iw_4 0 (by decide) rfl tw_127 dX4_init_17 ?_
  refine V_qlenO hC (by omega) up_vs (v := 8) rfl dX4_init_20 ?_
  refine V_icmp_ge (tgt := 43) hC dX4_init_21 (by decide) (fun b => absurd b (by decide)) (fun b => ?_)
  refine V_aload_n hC rfl dX4_init_24 ?_
  refine V_getO (ci := 4) hC (by omega) ((up_va (by omega)).trans up_vs) rfl iw_4 0 (by decide) rfl tw_127 dX4_init_25 ?_
  refine V_iload_n hC rfl dX4_init_28 ?_
  refine V_new (ci := 8) (fs := [.null, .null, .null]) hC rfl iw_8 tyX8 tyX8_ok tw_124 tw_27 tw_2 dfl_8 ⟨by rw [hR.1]; exact Nat.le_of_ble_eq_true rfl, by rw [hR.2]; exact Nat.le_of_ble_eq_true rfl⟩ dX4_init_29 ?_
  refine V_dup hC rfl dX4_init_32 ?_
  refine V_icallN hC (c_Si_init X.2.1 g (va_up (va_up O t (some (.inr (4, [ob g (t + 1), .int 0, .int 0])))) (t + 1) (some (.inl (g.2.2.2.1, 8, .inr (.inr (.inr (.inr (va_up (va_up (fun _ => none) 0 (some (g.1 + (t + 2)))) 1 (some (g.1 + (t + 12))))))))))) fu _ (t + 22) M2 (kx_4_22 t (kd_lt hk (by decide)) hk) (fun c hc => (up_va (by omega)).trans ((up_va (by omega)).trans (hO c (by omega)))) h) mw_X8_init (by decide) tw_126 (Nat.le_of_ble_eq_true rfl) ⟨by rw [hR.1]; exact Nat.le_of_ble_eq_true rfl, by rw [hR.2]; exact Nat.le_of_ble_eq_true rfl⟩ dX4_init_33 (fun M3 h => ?_)
  refine V_w (w' := (t + 32, (va_up (va_up O t (some (.inr (4, [ob g (t + 1), .int 0, .int 0])))) (t + 1) (some (.inl (g.2.2.2.1, 8, .inr (.inr (.inr (.inr (va_up (va_up (fun _ => none) 0 (some (g.1 + (t + 2)))) 1 (some (g.1 + (t + 12))))))))))))) rfl ?_
  refine V_astO hC (by omega) (by omega) (by omega) (kx_4_22 t (kd_lt hk (by decide)) hk) ((up_va (by omega)).trans (hO _ (by omega))) (i := 2) (vp_in_nI (n := 2) (N := 8) (by decide) (by decide)) dX4_init_36 ?_
  refine V_w (w' := (t + 32, (va_up (va_up O t (some (.inr (4, [ob g (t + 1), .int 0, .int 0])))) (t + 1) (some (.inl (g.2.2.2.1, 8, .inr (.inr (.inr (.inr (va_up (va_up (va_up (fun _ => none) 0 (some (g.1 + (t + 2)))) 1 (some (g.1 + (t + 12)))) 2 (some (g.1 + (t + 22))))))))))))) rfl ?_
  refine V_iinc (v := 3) hC rfl (by decide) (by decide) dX4_init_37 ?_
  refine V_goto (tgt := 15) hC (by decide) dX4_init_40 ?_
  refine V_iload_n hC rfl dX4_init_15 ?_
  refine V_aload_n hC rfl dX4_init_16 ?_
  refine V_getO (ci := 4) hC (by omega) ((up_va (by omega)).trans up_vs) rfl iw_4 0 (by decide) rfl tw_127 dX4_init_17 ?_
  refine V_qlenO hC (by omega) up_vs (v := 8) rfl dX4_init_20 ?_
  refine V_icmp_ge (tgt := 43) hC dX4_init_21 (by decide) (fun b => absurd b (by decide)) (fun b => ?_)
  refine V_aload_n hC rfl dX4_init_24 ?_
  refine V_getO (ci := 4) hC (by omega) ((up_va (by omega)).trans up_vs) rfl iw_4 0 (by decide) rfl tw_127 dX4_init_25 ?_
  refine V_iload_n hC rfl dX4_init_28 ?_
  refine V_new (ci := 8) (fs := [.null, .null, .null]) hC rfl iw_8 tyX8 tyX8_ok tw_124 tw_27 tw_2 dfl_8 ⟨by rw [hR.1]; exact Nat.le_of_ble_eq_true rfl, by rw [hR.2]; exact Nat.le_of_ble_eq_true rfl⟩ dX4_init_29 ?_
  refine V_dup hC rfl dX4_init_32 ?_
  refine V_icallN hC (c_Si_init X.2.1 g (va_up (va_up O t (some (.inr (4, [ob g (t + 1), .int 0, .int 0])))) (t + 1) (some (.inl (g.2.2.2.1, 8, .inr (.inr (.inr (.inr (va_up (va_up (va_up (fun _ => none) 0 (some (g.1 + (t + 2)))) 1 (some (g.1 + (t + 12)))) 2 (some (g.1 + (t + 22))))))))))) fu _ (t + 32) M3 (kx_4_32 t (kd_lt hk (by decide)) hk) (fun c hc => (up_va (by omega)).trans ((up_va (by omega)).trans (hO c (by omega)))) h) mw_X8_init (by decide) tw_126 (Nat.le_of_ble_eq_true rfl) ⟨by rw [hR.1]; exact Nat.le_of_ble_eq_true rfl, by rw [hR.2]; exact Nat.le_of_ble_eq_true rfl⟩ dX4_init_33 (fun M4 h => ?_)
  refine V_w (w' := (t + 42, (va_up (va_up O t (some (.inr (4, [ob g (t + 1), .int 0, .int 0])))) (t + 1) (some (.inl (g.2.2.2.1, 8, .inr (.inr (.inr (.inr (va_up (va_up (va_up (fun _ => none) 0 (some (g.1 + (t + 2)))) 1 (some (g.1 + (t + 12)))) 2 (some (g.1 + (t + 22))))))))))))) rfl ?_
  refine V_astO hC (by omega) (by omega) (by omega) (kx_4_32 t (kd_lt hk (by decide)) hk) ((up_va (by omega)).trans (hO _ (by omega))) (i := 3) (vp_in_nI (n := 3) (N := 8) (by decide) (by decide)) dX4_init_36 ?_
  refine V_w (w' := (t + 42, (va_up (va_up O t (some (.inr (4, [ob g (t + 1), .int 0, .int 0])))) (t + 1) (some (.inl (g.2.2.2.1, 8, .inr (.inr (.inr (.inr (va_up (va_up (va_up (va_up (fun _ => none) 0 (some (g.1 + (t + 2)))) 1 (some (g.1 + (t + 12)))) 2 (some (g.1 + (t + 22)))) 3 (some (g.1 + (t + 32))))))))))))) rfl ?_
  refine V_iinc (v := 4) hC rfl (by decide) (by decide) dX4_init_37 ?_
  refine V_goto (tgt := 15) hC (by decide) dX4_init_40 ?_
  refine V_iload_n hC rfl dX4_init_15 ?_
  refine V_aload_n hC rfl dX4_init_16 ?_
  refine V_getO (ci := 4) hC (by omega) ((up_va (by omega)).trans up_vs) rfl iw_4 0 (by decide) rfl tw_127 dX4_init_17 ?_
  refine V_qlenO hC (by omega) up_vs (v := 8) rfl dX4_init_20 ?_
  refine V_icmp_ge (tgt := 43) hC dX4_init_21 (by decide) (fun b => absurd b (by decide)) (fun b => ?_)
  refine V_aload_n hC rfl dX4_init_24 ?_
  refine V_getO (ci := 4) hC (by omega) ((up_va (by omega)).trans up_vs) rfl iw_4 0 (by decide) rfl tw_127 dX4_init_25 ?_
  refine V_iload_n hC rfl dX4_init_28 ?_
  refine V_new (ci := 8) (fs := [.null, .null, .null]) hC rfl iw_8 tyX8 tyX8_ok tw_124 tw_27 tw_2 dfl_8 ⟨by rw [hR.1]; exact Nat.le_of_ble_eq_true rfl, by rw [hR.2]; exact Nat.le_of_ble_eq_true rfl⟩ dX4_init_29 ?_
  refine V_dup hC rfl dX4_init_32 ?_
  refine V_icallN hC (c_Si_init X.2.1 g (va_up (va_up O t (some (.inr (4, [ob g (t + 1), .int 0, .int 0])))) (t + 1) (some (.inl (g.2.2.2.1, 8, .inr (.inr (.inr (.inr (va_up (va_up (va_up (va_up (fun _ => none) 0 (some (g.1 + (t + 2)))) 1 (some (g.1 + (t + 12)))) 2 (some (g.1 + (t + 22)))) 3 (some (g.1 + (t + 32))))))))))) fu _ (t + 42) M4 (kx_4_42 t (kd_lt hk (by decide)) hk) (fun c hc => (up_va (by omega)).trans ((up_va (by omega)).trans (hO c (by omega)))) h) mw_X8_init (by decide) tw_126 (Nat.le_of_ble_eq_true rfl) ⟨by rw [hR.1]; exact Nat.le_of_ble_eq_true rfl, by rw [hR.2]; exact Nat.le_of_ble_eq_true rfl⟩ dX4_init_33 (fun M5 h => ?_)
  refine V_w (w' := (t + 52, (va_up (va_up O t (some (.inr (4, [ob g (t + 1), .int 0, .int 0])))) (t + 1) (some (.inl (g.2.2.2.1, 8, .inr (.inr (.inr (.inr (va_up (va_up (va_up (va_up (fun _ => none) 0 (some (g.1 + (t + 2)))) 1 (some (g.1 + (t + 12)))) 2 (some (g.1 + (t + 22)))) 3 (some (g.1 + (t + 32))))))))))))) rfl ?_
  refine V_astO hC (by omega) (by omega) (by omega) (kx_4_42 t (kd_lt hk (by decide)) hk) ((up_va (by omega)).trans (hO _ (by omega))) (i := 4) (vp_in_nI (n := 4) (N := 8) (by decide) (by decide)) dX4_init_36 ?_
  refine V_w (w' := (t + 52, (va_up (va_up O t (some (.inr (4, [ob g (t + 1), .int 0, .int 0])))) (t + 1) (some (.inl (g.2.2.2.1, 8, .inr (.inr (.inr (.inr (va_up (va_up (va_up (va_up (va_up (fun _ => none) 0 (some (g.1 + (t + 2)))) 1 (some (g.1 + (t + 12)))) 2 (some (g.1 + (t + 22)))) 3 (some (g.1 + (t + 32)))) 4 (some (g.1 + (t + 42))))))))))))) rfl ?_
  refine V_iinc (v := 5) hC rfl (by decide) (by decide) dX4_init_37 ?_
  refine V_goto (tgt := 15) hC (by decide) dX4_init_40 ?_
  refine V_iload_n hC rfl dX4_init_15 ?_
  refine V_aload_n hC rfl dX4_init_16 ?_
  refine V_getO (ci := 4) hC (by omega) ((up_va (by omega)).trans up_vs) rfl iw_4 0 (by decide) rfl tw_127 dX4_init_17 ?_
  refine V_qlenO hC (by omega) up_vs (v := 8) rfl dX4_init_20 ?_
  refine V_icmp_ge (tgt := 43) hC dX4_init_21 (by decide) (fun b => absurd b (by decide)) (fun b => ?_)
  refine V_aload_n hC rfl dX4_init_24 ?_
  refine V_getO (ci := 4) hC (by omega) ((up_va (by omega)).trans up_vs) rfl iw_4 0 (by decide) rfl tw_127 dX4_init_25 ?_
  refine V_iload_n hC rfl dX4_init_28 ?_
  refine V_new (ci := 8) (fs := [.null, .null, .null]) hC rfl iw_8 tyX8 tyX8_ok tw_124 tw_27 tw_2 dfl_8 ⟨by rw [hR.1]; exact Nat.le_of_ble_eq_true rfl, by rw [hR.2]; exact Nat.le_of_ble_eq_true rfl⟩ dX4_init_29 ?_
  refine V_dup hC rfl dX4_init_32 ?_
  refine V_icallN hC (c_Si_init X.2.1 g (va_up (va_up O t (some (.inr (4, [ob g (t + 1), .int 0, .int 0])))) (t + 1) (some (.inl (g.2.2.2.1, 8, .inr (.inr (.inr (.inr (va_up (va_up (va_up (va_up (va_up (fun _ => none) 0 (some (g.1 + (t + 2)))) 1 (some (g.1 + (t + 12)))) 2 (some (g.1 + (t + 22)))) 3 (some (g.1 + (t + 32)))) 4 (some (g.1 + (t + 42))))))))))) fu _ (t + 52) M5 (kx_4_52 t (kd_lt hk (by decide)) hk) (fun c hc => (up_va (by omega)).trans ((up_va (by omega)).trans (hO c (by omega)))) h) mw_X8_init (by decide) tw_126 (Nat.le_of_ble_eq_true rfl) ⟨by rw [hR.1]; exact Nat.le_of_ble_eq_true rfl, by rw [hR.2]; exact Nat.le_of_ble_eq_true rfl⟩ dX4_init_33 (fun M6 h => ?_)
  refine V_w (w' := (t + 62, (va_up (va_up O t (some (.inr (4, [ob g (t + 1), .int 0, .int 0])))) (t + 1) (some (.inl (g.2.2.2.1, 8, .inr (.inr (.inr (.inr (va_up (va_up (va_up (va_up (va_up (fun _ => none) 0 (some (g.1 + (t + 2)))) 1 (some (g.1 + (t + 12)))) 2 (some (g.1 + (t + 22)))) 3 (some (g.1 + (t + 32)))) 4 (some (g.1 + (t + 42))))))))))))) rfl ?_
  refine V_astO hC (by omega) (by omega) (by omega) (kx_4_52 t (kd_lt hk (by decide)) hk) ((up_va (by omega)).trans (hO _ (by omega))) (i := 5) (vp_in_nI (n := 5) (N := 8) (by decide) (by decide)) dX4_init_36 ?_
  refine V_w (w' := (t + 62, (va_up (va_up O t (some (.inr (4, [ob g (t + 1), .int 0, .int 0])))) (t + 1) (some (.inl (g.2.2.2.1, 8, .inr (.inr (.inr (.inr (va_up (va_up (va_up (va_up (va_up (va_up (fun _ => none) 0 (some (g.1 + (t + 2)))) 1 (some (g.1 + (t + 12)))) 2 (some (g.1 + (t + 22)))) 3 (some (g.1 + (t + 32)))) 4 (some (g.1 + (t + 42)))) 5 (some (g.1 + (t + 52))))))))))))) rfl ?_
  refine V_iinc (v := 6) hC rfl (by decide) (by decide) dX4_init_37 ?_
  refine V_goto (tgt := 15) hC (by decide) dX4_init_40 ?_
  refine V_iload_n hC rfl dX4_init_15 ?_
  refine V_aload_n hC rfl dX4_init_16 ?_
  refine V_getO (ci := 4) hC (by omega) ((up_va (by omega)).trans up_vs) rfl iw_4 0 (by decide) rfl tw_127 dX4_init_17 ?_
  refine V_qlenO hC (by omega) up_vs (v := 8) rfl dX4_init_20 ?_
  refine V_icmp_ge (tgt := 43) hC dX4_init_21 (by decide) (fun b => absurd b (by decide)) (fun b => ?_)
  refine V_aload_n hC rfl dX4_init_24 ?_
  refine V_getO (ci := 4) hC (by omega) ((up_va (by omega)).trans up_vs) rfl iw_4 0 (by decide) rfl tw_127 dX4_init_25 ?_
  refine V_iload_n hC rfl dX4_init_28 ?_
  refine V_new (ci := 8) (fs := [.null, .null, .null]) hC rfl iw_8 tyX8 tyX8_ok tw_124 tw_27 tw_2 dfl_8 ⟨by rw [hR.1]; exact Nat.le_of_ble_eq_true rfl, by rw [hR.2]; exact Nat.le_of_ble_eq_true rfl⟩ dX4_init_29 ?_
  refine V_dup hC rfl dX4_init_32 ?_
  refine V_icallN hC (c_Si_init X.2.1 g (va_up (va_up O t (some (.inr (4, [ob g (t + 1), .int 0, .int 0])))) (t + 1) (some (.inl (g.2.2.2.1, 8, .inr (.inr (.inr (.inr (va_up (va_up (va_up (va_up (va_up (va_up (fun _ => none) 0 (some (g.1 + (t + 2)))) 1 (some (g.1 + (t + 12)))) 2 (some (g.1 + (t + 22)))) 3 (some (g.1 + (t + 32)))) 4 (some (g.1 + (t + 42)))) 5 (some (g.1 + (t + 52))))))))))) fu _ (t + 62) M6 (kx_4_62 t (kd_lt hk (by decide)) hk) (fun c hc => (up_va (by omega)).trans ((up_va (by omega)).trans (hO c (by omega)))) h) mw_X8_init (by decide) tw_126 (Nat.le_of_ble_eq_true rfl) ⟨by rw [hR.1]; exact Nat.le_of_ble_eq_true rfl, by rw [hR.2]; exact Nat.le_of_ble_eq_true rfl⟩ dX4_init_33 (fun M7 h => ?_)
  refine V_w (w' := (t + 72, (va_up (va_up O t (some (.inr (4, [ob g (t + 1), .int 0, .int 0])))) (t + 1) (some (.inl (g.2.2.2.1, 8, .inr (.inr (.inr (.inr (va_up (va_up (va_up (va_up (va_up (va_up (fun _ => none) 0 (some (g.1 + (t + 2)))) 1 (some (g.1 + (t + 12)))) 2 (some (g.1 + (t + 22)))) 3 (some (g.1 + (t + 32)))) 4 (some (g.1 + (t + 42)))) 5 (some (g.1 + (t + 52))))))))))))) rfl ?_
  refine V_astO hC (by omega) (by omega) (by omega) (kx_4_62 t (kd_lt hk (by decide)) hk) ((up_va (by omega)).trans (hO _ (by omega))) (i := 6) (vp_in_nI (n := 6) (N := 8) (by decide) (by decide)) dX4_init_36 ?_
  refine V_w (w' := (t + 72, (va_up (va_up O t (some (.inr (4, [ob g (t + 1), .int 0, .int 0])))) (t + 1) (some (.inl (g.2.2.2.1, 8, .inr (.inr (.inr (.inr (va_up (va_up (va_up (va_up (va_up (va_up (va_up (fun _ => none) 0 (some (g.1 + (t + 2)))) 1 (some (g.1 + (t + 12)))) 2 (some (g.1 + (t + 22)))) 3 (some (g.1 + (t + 32)))) 4 (some (g.1 + (t + 42)))) 5 (some (g.1 + (t + 52)))) 6 (some (g.1 + (t + 62))))))))))))) rfl ?_
  refine V_iinc (v := 7) hC rfl (by decide) (by decide) dX4_init_37 ?_
  refine V_goto (tgt := 15) hC (by decide) dX4_init_40 ?_
  refine V_iload_n hC rfl dX4_init_15 ?_
  refine V_aload_n hC rfl dX4_init_16 ?_
  refine V_getO (ci := 4) hC (by omega) ((up_va (by omega)).trans up_vs) rfl iw_4 0 (by decide) rfl tw_127 dX4_init_17 ?_
  refine V_qlenO hC (by omega) up_vs (v := 8) rfl dX4_init_20 ?_
  refine V_icmp_ge (tgt := 43) hC dX4_init_21 (by decide) (fun b => absurd b (by decide)) (fun b => ?_)
  refine V_aload_n hC rfl dX4_init_24 ?_
  refine V_getO (ci := 4) hC (by omega) ((up_va (by omega)).trans up_vs) rfl iw_4 0 (by decide) rfl tw_127 dX4_init_25 ?_
  refine V_iload_n hC rfl dX4_init_28 ?_
  refine V_new (ci := 8) (fs := [.null, .null, .null]) hC rfl iw_8 tyX8 tyX8_ok tw_124 tw_27 tw_2 dfl_8 ⟨by rw [hR.1]; exact Nat.le_of_ble_eq_true rfl, by rw [hR.2]; exact Nat.le_of_ble_eq_true rfl⟩ dX4_init_29 ?_
  refine V_dup hC rfl dX4_init_32 ?_
  refine V_icallN hC (c_Si_init X.2.1 g (va_up (va_up O t (some (.inr (4, [ob g (t + 1), .int 0, .int 0])))) (t + 1) (some (.inl (g.2.2.2.1, 8, .inr (.inr (.inr (.inr (va_up (va_up (va_up (va_up (va_up (va_up (va_up (fun _ => none) 0 (some (g.1 + (t + 2)))) 1 (some (g.1 + (t + 12)))) 2 (some (g.1 + (t + 22)))) 3 (some (g.1 + (t + 32)))) 4 (some (g.1 + (t + 42)))) 5 (some (g.1 + (t + 52)))) 6 (some (g.1 + (t + 62))))))))))) fu _ (t + 72) M7 (kx_4_72 t (kd_lt hk (by decide)) hk) (fun c hc => (up_va (by omega)).trans ((up_va (by omega)).trans (hO c (by omega)))) h) mw_X8_init (by decide) tw_126 (Nat.le_of_ble_eq_true rfl) ⟨by rw [hR.1]; exact Nat.le_of_ble_eq_true rfl, by rw [hR.2]; exact Nat.le_of_ble_eq_true rfl⟩ dX4_init_33 (fun M8 h => ?_)
  refine V_w (w' := (t + 82, (va_up (va_up O t (some (.inr (4, [ob g (t + 1), .int 0, .int 0])))) (t + 1) (some (.inl (g.2.2.2.1, 8, .inr (.inr (.inr (.inr (va_up (va_up (va_up (va_up (va_up (va_up (va_up (fun _ => none) 0 (some (g.1 + (t + 2)))) 1 (some (g.1 + (t + 12)))) 2 (some (g.1 + (t + 22)))) 3 (some (g.1 + (t + 32)))) 4 (some (g.1 + (t + 42)))) 5 (some (g.1 + (t + 52)))) 6 (some (g.1 + (t + 62))))))))))))) rfl ?_
  refine V_astO hC (by omega) (by omega) (by omega) (kx_4_72 t (kd_lt hk (by decide)) hk) ((up_va (by omega)).trans (hO _ (by omega))) (i := 7) (vp_in_nI (n := 7) (N := 8) (by decide) (by decide)) dX4_init_36 ?_
  refine V_w (w' := (t + 82, (va_up (va_up O t (some (.inr (4, [ob g (t + 1), .int 0, .int 0])))) (t + 1) (some (.inl (g.2.2.2.1, 8, .inr (.inr (.inr (.inr (va_up (va_up (va_up (va_up (va_up (va_up (va_up (va_up (fun _ => none) 0 (some (g.1 + (t + 2)))) 1 (some (g.1 + (t + 12)))) 2 (some (g.1 + (t + 22)))) 3 (some (g.1 + (t + 32)))) 4 (some (g.1 + (t + 42)))) 5 (some (g.1 + (t + 52)))) 6 (some (g.1 + (t + 62)))) 7 (some (g.1 + (t + 72))))))))))))) rfl ?_
  refine V_iinc (v := 8) hC rfl (by decide) (by decide) dX4_init_37 ?_
  refine V_goto (tgt := 15) hC (by decide) dX4_init_40 ?_
  refine V_iload_n hC rfl dX4_init_15 ?_
  refine V_aload_n hC rfl dX4_init_16 ?_
  refine V_getO (ci := 4) hC (by omega) ((up_va (by omega)).trans up_vs) rfl iw_4 0 (by decide) rfl tw_127 dX4_init_17 ?_
  refine V_qlenO hC (by omega) up_vs (v := 8) rfl dX4_init_20 ?_
  refine V_icmp_ge (tgt := 43) hC dX4_init_21 (by decide) (fun b => ?_) (fun b => absurd (by decide) b)
  refine V_fin (O := (va_up O t (some (.inr (4, [ob g (t + 1), .int 0, .int 0]))))) (t := t + 1) ((up_va (by omega)).trans (hO _ (by omega))) (by rw [ent_21 kd_r, ln_ring _ (kd_lt kd_r (by decide)) kd_r]; exact fin_q (g := g) (fun j hj => by
    have : j = 0 ∨ j = 1 ∨ j = 2 ∨ j = 3 ∨ j = 4 ∨ j = 5 ∨ j = 6 ∨ j = 7 := by have h8 : j < 8 := hj; omega
    rcases this with rfl | rfl | rfl | rfl | rfl | rfl | rfl | rfl <;> rfl)) ?_
  obtain ⟨hz0, h⟩ := h
  refine V_fin (hO t (Nat.le_refl t)) (fin_eq (by rw [ent_4 hk]; simp [hz0])) ?_
  exact V_vret hC h dX4_init_43
def f_Re_init (fu : Nat) (post : Mm → Prop) (t : Nat) (M : Mm) : Prop :=
  (∀ j, M (t + 1) j = 0) ∧ (∀ j, M (t + 2) j = 0) ∧ (∀ j, M (t + 3) j = 0) ∧ (∀ j, M t j = 0) ∧ post M
set_option maxRecDepth 100000 in
set_option maxHeartbeats 4000000 in
theorem c_Re_init (l : Launch) (g : GX) (O : Nat → Option va_E) (fu : Nat) (post : Mm → Prop) (t : Nat) (M : Mm) (hk : kd t = 5) (hO : ∀ c, t ≤ c → O c = none) (h : f_Re_init fu post t M) : Met l yX5_init [Cond.code yX5_init cX5_init 1 none] (rmC 1 3 768) (va_Pc [ob g t] (Wb g (t + 1, va_up O t (some (.inr (5, [.null, .null, .null, .int 0])))) M)) (va_Qv post (Wb g (t + 4, O)) (Af g)) 3 768 (Af g) := by
  refine Ct_c (by decide) rfl rfl (by decide) ?_
  intro X hX hC hname hR
  unfold f_Re_init at h
  refine V_sub (us := [some (ob g t)]) ⟨rfl, trivial⟩ ?_
  refine V_aload_n hC rfl dX5_init_0 ?_
  refine V_objInit hC tw_177 tw_oi1 tw_oi2 (by decide) (Nat.le_of_ble_eq_true rfl) dX5_init_1 ?_
  refine V_aload_n hC rfl dX5_init_4 ?_
  refine V_sipush (v := 576) hC (by decide) dX5_init_5 ?_
  obtain ⟨hz1, h⟩ := h
  refine V_newa (L := 576) hC tw_56 (by decide) (by decide) (by decide) (kx_5_1 t (kd_lt hk (by decide)) hk) (lx_5_1 t (kd_lt hk (by decide)) hk) ((up_va (by omega)).trans (hO _ (by omega))) hz1 ⟨by rw [hR.1]; exact Nat.le_of_ble_eq_true rfl, by rw [hR.2]; exact Nat.le_of_ble_eq_true rfl⟩ dX5_init_8 ?_
  refine V_putO hC hname (by omega) (ci := 5) rfl iw_5 tyX5 tyX5_ok nmX5 0 (by decide) rfl rfl (ty := .array .int) (by decide +kernel) rfl rfl (Nat.le_of_ble_eq_true rfl) tw_178 dX5_init_10 ?_
  refine V_w (w' := (t + 2, (va_up O t (some (.inr (5, [ob g (t + 1), .null, .null, .int 0])))))) rfl ?_
  refine V_aload_n hC rfl dX5_init_13 ?_
  refine V_bipush (v := 96) hC (by decide) dX5_init_14 ?_
  obtain ⟨hz2, h⟩ := h
  refine V_newa (L := 96) hC tw_56 (by decide) (by decide) (by decide) (kx_5_2 t (kd_lt hk (by decide)) hk) (lx_5_2 t (kd_lt hk (by decide)) hk) ((up_va (by omega)).trans (hO _ (by omega))) hz2 ⟨by rw [hR.1]; exact Nat.le_of_ble_eq_true rfl, by rw [hR.2]; exact Nat.le_of_ble_eq_true rfl⟩ dX5_init_16 ?_
  refine V_putO hC hname (by omega) (ci := 5) rfl iw_5 tyX5 tyX5_ok nmX5 1 (by decide) rfl rfl (ty := .array .int) (by decide +kernel) rfl rfl (Nat.le_of_ble_eq_true rfl) tw_179 dX5_init_18 ?_
  refine V_w (w' := (t + 3, (va_up O t (some (.inr (5, [ob g (t + 1), ob g (t + 2), .null, .int 0])))))) rfl ?_
  refine V_aload_n hC rfl dX5_init_21 ?_
  refine V_bipush (v := 96) hC (by decide) dX5_init_22 ?_
  obtain ⟨hz3, h⟩ := h
  refine V_newa (L := 96) hC tw_56 (by decide) (by decide) (by decide) (kx_5_3 t (kd_lt hk (by decide)) hk) (lx_5_3 t (kd_lt hk (by decide)) hk) ((up_va (by omega)).trans (hO _ (by omega))) hz3 ⟨by rw [hR.1]; exact Nat.le_of_ble_eq_true rfl, by rw [hR.2]; exact Nat.le_of_ble_eq_true rfl⟩ dX5_init_24 ?_
  refine V_putO hC hname (by omega) (ci := 5) rfl iw_5 tyX5 tyX5_ok nmX5 2 (by decide) rfl rfl (ty := .array .int) (by decide +kernel) rfl rfl (Nat.le_of_ble_eq_true rfl) tw_180 dX5_init_26 ?_
  refine V_w (w' := (t + 4, (va_up O t (some (.inr (5, [ob g (t + 1), ob g (t + 2), ob g (t + 3), .int 0])))))) rfl ?_
  obtain ⟨hz0, h⟩ := h
  refine V_fin (hO t (Nat.le_refl t)) (fin_eq (by rw [ent_5 hk]; simp [hz0])) ?_
  exact V_vret hC h dX5_init_29
def f_Sc_init (fu : Nat) (post : Mm → Prop) (t : Nat) (M : Mm) : Prop :=
  (∀ j, M (t + 1) j = 0) ∧ (∀ j, M (t + 2) j = 0) ∧ (∀ j, M t j = 0) ∧ post M
set_option maxRecDepth 100000 in
set_option maxHeartbeats 4000000 in
theorem c_Sc_init (l : Launch) (g : GX) (O : Nat → Option va_E) (fu : Nat) (post : Mm → Prop) (t : Nat) (M : Mm) (hk : kd t = 6) (hO : ∀ c, t ≤ c → O c = none) (h : f_Sc_init fu post t M) : Met l yX6_init [Cond.code yX6_init cX6_init 1 none] (rmC 1 2 2496) (va_Pc [ob g t] (Wb g (t + 1, va_up O t (some (.inr (6, [.null, .null, .int 0])))) M)) (va_Qv post (Wb g (t + 3, O)) (Af g)) 2 2496 (Af g) := by
  refine Ct_c (by decide) rfl rfl (by decide) ?_
  intro X hX hC hname hR
  unfold f_Sc_init at h
  refine V_sub (us := [some (ob g t)]) ⟨rfl, trivial⟩ ?_
  refine V_aload_n hC rfl dX6_init_0 ?_
  refine V_objInit hC tw_232 tw_oi1 tw_oi2 (by decide) (Nat.le_of_ble_eq_true rfl) dX6_init_1 ?_
  refine V_aload_n hC rfl dX6_init_4 ?_
  refine V_sipush (v := 1248) hC (by decide) dX6_init_5 ?_
  obtain ⟨hz1, h⟩ := h
  refine V_newa (L := 1248) hC tw_56 (by decide) (by decide) (by decide) (kx_6_1 t (kd_lt hk (by decide)) hk) (lx_6_1 t (kd_lt hk (by decide)) hk) ((up_va (by omega)).trans (hO _ (by omega))) hz1 ⟨by rw [hR.1]; exact Nat.le_of_ble_eq_true rfl, by rw [hR.2]; exact Nat.le_of_ble_eq_true rfl⟩ dX6_init_8 ?_
  refine V_putO hC hname (by omega) (ci := 6) rfl iw_6 tyX6 tyX6_ok nmX6 0 (by decide) rfl rfl (ty := .array .int) (by decide +kernel) rfl rfl (Nat.le_of_ble_eq_true rfl) tw_233 dX6_init_10 ?_
  refine V_w (w' := (t + 2, (va_up O t (some (.inr (6, [ob g (t + 1), .null, .int 0])))))) rfl ?_
  refine V_aload_n hC rfl dX6_init_13 ?_
  refine V_sipush (v := 1248) hC (by decide) dX6_init_14 ?_
  obtain ⟨hz2, h⟩ := h
  refine V_newa (L := 1248) hC tw_56 (by decide) (by decide) (by decide) (kx_6_2 t (kd_lt hk (by decide)) hk) (lx_6_2 t (kd_lt hk (by decide)) hk) ((up_va (by omega)).trans (hO _ (by omega))) hz2 ⟨by rw [hR.1]; exact Nat.le_of_ble_eq_true rfl, by rw [hR.2]; exact Nat.le_of_ble_eq_true rfl⟩ dX6_init_17 ?_
  refine V_putO hC hname (by omega) (ci := 6) rfl iw_6 tyX6 tyX6_ok nmX6 1 (by decide) rfl rfl (ty := .array .int) (by decide +kernel) rfl rfl (Nat.le_of_ble_eq_true rfl) tw_234 dX6_init_19 ?_
  refine V_w (w' := (t + 3, (va_up O t (some (.inr (6, [ob g (t + 1), ob g (t + 2), .int 0])))))) rfl ?_
  obtain ⟨hz0, h⟩ := h
  refine V_fin (hO t (Nat.le_refl t)) (fin_eq (by rw [ent_6 hk]; simp [hz0])) ?_
  exact V_vret hC h dX6_init_22
def f_St_init (fu : Nat) (post : Mm → Prop) (t : Nat) (M : Mm) : Prop :=
  f_Si_init fu (fun M1 => f_Re_init fu (fun M2 => (∀ j, M2 (t + 15) j = 0) ∧ (∀ j, M2 (t + 16) j = 0) ∧ (∀ j, M2 (t + 17) j = 0) ∧ (∀ j, M2 t j = 0) ∧ post M2) (t + 11) M1) (t + 1) M
set_option maxRecDepth 100000 in
set_option maxHeartbeats 4000000 in
theorem c_St_init (l : Launch) (g : GX) (O : Nat → Option va_E) (fu : Nat) (post : Mm → Prop) (t : Nat) (M : Mm) (hk : kd t = 7) (hO : ∀ c, t ≤ c → O c = none) (h : f_St_init fu post t M) : Met l yX7_init [Cond.code yX7_init cX7_init 1 none] (rmC 5 17 4677) (va_Pc [ob g t] (Wb g (t + 1, va_up O t (some (.inr (7, [.null, .null, .null, .null, .null, .int 0, .int 0, .int 0, .int 0, .int 0, .int 0])))) M)) (va_Qv post (Wb g (t + 18, O)) (Af g)) 17 4677 (Af g) := by
  refine Ct_c (by decide) rfl rfl (by decide) ?_
  intro X hX hC hname hR
  unfold f_St_init at h
  refine V_sub (us := [some (ob g t)]) ⟨rfl, trivial⟩ ?_
  refine V_aload_n hC rfl dX7_init_0 ?_
  refine V_objInit hC tw_169 tw_oi1 tw_oi2 (by decide) (Nat.le_of_ble_eq_true rfl) dX7_init_1 ?_
  refine V_aload_n hC rfl dX7_init_4 ?_
  refine V_new (ci := 8) (fs := [.null, .null, .null]) hC rfl iw_8 tyX8 tyX8_ok tw_170 tw_27 tw_2 dfl_8 ⟨by rw [hR.1]; exact Nat.le_of_ble_eq_true rfl, by rw [hR.2]; exact Nat.le_of_ble_eq_true rfl⟩ dX7_init_5 ?_
  refine V_dup hC rfl dX7_init_8 ?_
  refine V_icallN hC (c_Si_init X.2.1 g (va_up O t (some (.inr (7, [.null, .null, .null, .null, .null, .int 0, .int 0, .int 0, .int 0, .int 0, .int 0])))) fu _ (t + 1) M (kx_7_1 t (kd_lt hk (by decide)) hk) (fun c hc => (up_va (by omega)).trans (hO c (by omega))) h) mw_X8_init (by decide) tw_171 (Nat.le_of_ble_eq_true rfl) ⟨by rw [hR.1]; exact Nat.le_of_ble_eq_true rfl, by rw [hR.2]; exact Nat.le_of_ble_eq_true rfl⟩ dX7_init_9 (fun M1 h => ?_)
  refine V_w (w' := (t + 11, (va_up O t (some (.inr (7, [.null, .null, .null, .null, .null, .int 0, .int 0, .int 0, .int 0, .int 0, .int 0])))))) rfl ?_
  refine V_putO hC hname (by omega) (ci := 7) rfl iw_7 tyX7 tyX7_ok nmX7 0 (by decide) rfl rfl (ty := .object "SyntaxRepair$Situation") (by decide +kernel) rfl rfl (Nat.le_of_ble_eq_true rfl) tw_192 dX7_init_12 ?_
  refine V_w (w' := (t + 11, (va_up O t (some (.inr (7, [ob g (t + 1), .null, .null, .null, .null, .int 0, .int 0, .int 0, .int 0, .int 0, .int 0])))))) rfl ?_
  refine V_aload_n hC rfl dX7_init_15 ?_
  refine V_new (ci := 5) (fs := [.null, .null, .null, .int 0]) hC rfl iw_5 tyX5 tyX5_ok tw_172 tw_173 tw_9 dfl_5 ⟨by rw [hR.1]; exact Nat.le_of_ble_eq_true rfl, by rw [hR.2]; exact Nat.le_of_ble_eq_true rfl⟩ dX7_init_16 ?_
  refine V_dup hC rfl dX7_init_19 ?_
  refine V_icallN hC (c_Re_init X.2.1 g (va_up O t (some (.inr (7, [ob g (t + 1), .null, .null, .null, .null, .int 0, .int 0, .int 0, .int 0, .int 0, .int 0])))) fu _ (t + 11) M1 (kx_7_11 t (kd_lt hk (by decide)) hk) (fun c hc => (up_va (by omega)).trans (hO c (by omega))) h) mw_X5_init (by decide) tw_174 (Nat.le_of_ble_eq_true rfl) ⟨by rw [hR.1]; exact Nat.le_of_ble_eq_true rfl, by rw [hR.2]; exact Nat.le_of_ble_eq_true rfl⟩ dX7_init_20 (fun M2 h => ?_)
  refine V_w (w' := (t + 15, (va_up O t (some (.inr (7, [ob g (t + 1), .null, .null, .null, .null, .int 0, .int 0, .int 0, .int 0, .int 0, .int 0])))))) rfl ?_
  refine V_putO hC hname (by omega) (ci := 7) rfl iw_7 tyX7 tyX7_ok nmX7 1 (by decide) rfl rfl (ty := .object "SyntaxRepair$Reach") (by decide +kernel) rfl rfl (Nat.le_of_ble_eq_true rfl) tw_193 dX7_init_23 ?_
  refine V_w (w' := (t + 15, (va_up O t (some (.inr (7, [ob g (t + 1), ob g (t + 11), .null, .null, .null, .int 0, .int 0, .int 0, .int 0, .int 0, .int 0])))))) rfl ?_
  refine V_aload_n hC rfl dX7_init_26 ?_
  refine V_sipush (v := 1248) hC (by decide) dX7_init_27 ?_
  obtain ⟨hz15, h⟩ := h
  refine V_newa (L := 1248) hC tw_56 (by decide) (by decide) (by decide) (kx_7_15 t (kd_lt hk (by decide)) hk) (lx_7_15 t (kd_lt hk (by decide)) hk) ((up_va (by omega)).trans (hO _ (by omega))) hz15 ⟨by rw [hR.1]; exact Nat.le_of_ble_eq_true rfl, by rw [hR.2]; exact Nat.le_of_ble_eq_true rfl⟩ dX7_init_30 ?_
  refine V_putO hC hname (by omega) (ci := 7) rfl iw_7 tyX7 tyX7_ok nmX7 2 (by decide) rfl rfl (ty := .array .int) (by decide +kernel) rfl rfl (Nat.le_of_ble_eq_true rfl) tw_194 dX7_init_32 ?_
  refine V_w (w' := (t + 16, (va_up O t (some (.inr (7, [ob g (t + 1), ob g (t + 11), ob g (t + 15), .null, .null, .int 0, .int 0, .int 0, .int 0, .int 0, .int 0])))))) rfl ?_
  refine V_aload_n hC rfl dX7_init_35 ?_
  refine V_sipush (v := 1248) hC (by decide) dX7_init_36 ?_
  obtain ⟨hz16, h⟩ := h
  refine V_newa (L := 1248) hC tw_56 (by decide) (by decide) (by decide) (kx_7_16 t (kd_lt hk (by decide)) hk) (lx_7_16 t (kd_lt hk (by decide)) hk) ((up_va (by omega)).trans (hO _ (by omega))) hz16 ⟨by rw [hR.1]; exact Nat.le_of_ble_eq_true rfl, by rw [hR.2]; exact Nat.le_of_ble_eq_true rfl⟩ dX7_init_39 ?_
  refine V_putO hC hname (by omega) (ci := 7) rfl iw_7 tyX7 tyX7_ok nmX7 3 (by decide) rfl rfl (ty := .array .int) (by decide +kernel) rfl rfl (Nat.le_of_ble_eq_true rfl) tw_195 dX7_init_41 ?_
  refine V_w (w' := (t + 17, (va_up O t (some (.inr (7, [ob g (t + 1), ob g (t + 11), ob g (t + 15), ob g (t + 16), .null, .int 0, .int 0, .int 0, .int 0, .int 0, .int 0])))))) rfl ?_
  refine V_aload_n hC rfl dX7_init_44 ?_
  refine V_sipush (v := 1248) hC (by decide) dX7_init_45 ?_
  obtain ⟨hz17, h⟩ := h
  refine V_newa (L := 1248) hC tw_56 (by decide) (by decide) (by decide) (kx_7_17 t (kd_lt hk (by decide)) hk) (lx_7_17 t (kd_lt hk (by decide)) hk) ((up_va (by omega)).trans (hO _ (by omega))) hz17 ⟨by rw [hR.1]; exact Nat.le_of_ble_eq_true rfl, by rw [hR.2]; exact Nat.le_of_ble_eq_true rfl⟩ dX7_init_48 ?_
  refine V_putO hC hname (by omega) (ci := 7) rfl iw_7 tyX7 tyX7_ok nmX7 4 (by decide) rfl rfl (ty := .array .int) (by decide +kernel) rfl rfl (Nat.le_of_ble_eq_true rfl) tw_196 dX7_init_50 ?_
  refine V_w (w' := (t + 18, (va_up O t (some (.inr (7, [ob g (t + 1), ob g (t + 11), ob g (t + 15), ob g (t + 16), ob g (t + 17), .int 0, .int 0, .int 0, .int 0, .int 0, .int 0])))))) rfl ?_
  obtain ⟨hz0, h⟩ := h
  refine V_fin (hO t (Nat.le_refl t)) (fin_eq (by rw [ent_7 hk]; simp [hz0])) ?_
  exact V_vret hC h dX7_init_53
def f_SR_init (fu : Nat) (post : Mm → Prop) (t : Nat) (M : Mm) : Prop :=
  f_Si_init fu (fun M1 => f_Hi_init fu (fun M2 => f_Gt_init fu (fun M3 => f_St_init fu (fun M4 => f_St_init fu (fun M5 => f_Sc_init fu (fun M6 => f_Cu_init fu (fun M7 => f_Au_setAccepting fu (fun M8 => post M8) (t + 2) 0 M7) (t + 144) M6) (t + 141) M5) (t + 123) M4) (t + 105) M3) (t + 93) M2) (t + 11) M1) (t + 1) M
set_option maxRecDepth 100000 in
set_option maxHeartbeats 4000000 in
theorem c_SR_init (l : Launch) (g : GX) (O : Nat → Option va_E) (fu : Nat) (post : Mm → Prop) (t : Nat) (M : Mm) (hk : kd t = 10) (hO : ∀ c, t ≤ c → O c = none) (h : f_SR_init fu post t M) : Met l yX10_init [Cond.code yX10_init cX10_init 1 none] (rmC 6 144 13653) (va_Pc [ob g t] (Wb g (t + 1, va_up O t (some (.inr (10, [.null, .null, .null, .null, .null, .null, .null])))) M)) (va_Qv post (Wb g (t + 145, O)) (Af g)) 144 13653 (Af g) := by
  refine Ct_c (by decide) rfl rfl (by decide) ?_
  intro X hX hC hname hR
  unfold f_SR_init at h
  refine V_sub (us := [some (ob g t)]) ⟨rfl, trivial⟩ ?_
  refine V_aload_n hC rfl dX10_init_0 ?_
  refine V_objInit hC tw_23 tw_oi1 tw_oi2 (by decide) (Nat.le_of_ble_eq_true rfl) dX10_init_1 ?_
  refine V_aload_n hC rfl dX10_init_4 ?_
  refine V_new (ci := 8) (fs := [.null, .null, .null]) hC rfl iw_8 tyX8 tyX8_ok tw_26 tw_27 tw_2 dfl_8 ⟨by rw [hR.1]; exact Nat.le_of_ble_eq_true rfl, by rw [hR.2]; exact Nat.le_of_ble_eq_true rfl⟩ dX10_init_5 ?_
  refine V_dup hC rfl dX10_init_8 ?_
  refine V_icallN hC (c_Si_init X.2.1 g (va_up O t (some (.inr (10, [.null, .null, .null, .null, .null, .null, .null])))) fu _ (t + 1) M (kx_10_1 t (kd_lt hk (by decide)) hk) (fun c hc => (up_va (by omega)).trans (hO c (by omega))) h) mw_X8_init (by decide) tw_28 (Nat.le_of_ble_eq_true rfl) ⟨by rw [hR.1]; exact Nat.le_of_ble_eq_true rfl, by rw [hR.2]; exact Nat.le_of_ble_eq_true rfl⟩ dX10_init_9 (fun M1 h => ?_)
  refine V_w (w' := (t + 11, (va_up O t (some (.inr (10, [.null, .null, .null, .null, .null, .null, .null])))))) rfl ?_
  refine V_putO hC hname (by omega) (ci := 10) rfl iw_10 tyX10 tyX10_ok nmX10 0 (by decide) rfl rfl (ty := .object "SyntaxRepair$Situation") (by decide +kernel) rfl rfl (Nat.le_of_ble_eq_true rfl) tw_268 dX10_init_12 ?_
  refine V_w (w' := (t + 11, (va_up O t (some (.inr (10, [ob g (t + 1), .null, .null, .null, .null, .null, .null])))))) rfl ?_
  refine V_aload_n hC rfl dX10_init_15 ?_
  refine V_new (ci := 4) (fs := [.null, .int 0, .int 0]) hC rfl iw_4 tyX4 tyX4_ok tw_118 tw_119 tw_6 dfl_4 ⟨by rw [hR.1]; exact Nat.le_of_ble_eq_true rfl, by rw [hR.2]; exact Nat.le_of_ble_eq_true rfl⟩ dX10_init_16 ?_
  refine V_dup hC rfl dX10_init_19 ?_
  refine V_icall hC (c_Hi_init X.2.1 g (va_up O t (some (.inr (10, [ob g (t + 1), .null, .null, .null, .null, .null, .null])))) fu _ (t + 11) M1 (kx_10_11 t (kd_lt hk (by decide)) hk) (fun c hc => (up_va (by omega)).trans (hO c (by omega))) h) mw_X4_init (by decide) tw_120 (Nat.le_of_ble_eq_true rfl) ⟨by rw [hR.1]; exact Nat.le_of_ble_eq_true rfl, by rw [hR.2]; exact Nat.le_of_ble_eq_true rfl⟩ dX10_init_20 (fun M2 h => ?_)
  refine V_w (w' := (t + 93, (va_up O t (some (.inr (10, [ob g (t + 1), .null, .null, .null, .null, .null, .null])))))) rfl ?_
  refine V_putO hC hname (by omega) (ci := 10) rfl iw_10 tyX10 tyX10_ok nmX10 1 (by decide) rfl rfl (ty := .object "SyntaxRepair$History") (by decide +kernel) rfl rfl (Nat.le_of_ble_eq_true rfl) tw_269 dX10_init_23 ?_
  refine V_w (w' := (t + 93, (va_up O t (some (.inr (10, [ob g (t + 1), ob g (t + 11), .null, .null, .null, .null, .null])))))) rfl ?_
  refine V_aload_n hC rfl dX10_init_26 ?_
  refine V_new (ci := 3) (fs := [.null, .null, .int 0, .int 0, .int 0]) hC rfl iw_3 tyX3 tyX3_ok tw_138 tw_139 tw_7 dfl_3 ⟨by rw [hR.1]; exact Nat.le_of_ble_eq_true rfl, by rw [hR.2]; exact Nat.le_of_ble_eq_true rfl⟩ dX10_init_27 ?_
  refine V_dup hC rfl dX10_init_30 ?_
  refine V_icallN hC (c_Gt_init X.2.1 g (va_up O t (some (.inr (10, [ob g (t + 1), ob g (t + 11), .null, .null, .null, .null, .null])))) fu _ (t + 93) M2 (kx_10_93 t (kd_lt hk (by decide)) hk) (fun c hc => (up_va (by omega)).trans (hO c (by omega))) h) mw_X3_init (by decide) tw_140 (Nat.le_of_ble_eq_true rfl) ⟨by rw [hR.1]; exact Nat.le_of_ble_eq_true rfl, by rw [hR.2]; exact Nat.le_of_ble_eq_true rfl⟩ dX10_init_31 (fun M3 h => ?_)
  refine V_w (w' := (t + 105, (va_up O t (some (.inr (10, [ob g (t + 1), ob g (t + 11), .null, .null, .null, .null, .null])))))) rfl ?_
  refine V_putO hC hname (by omega) (ci := 10) rfl iw_10 tyX10 tyX10_ok nmX10 2 (by decide) rfl rfl (ty := .object "SyntaxRepair$GrammarText") (by decide +kernel) rfl rfl (Nat.le_of_ble_eq_true rfl) tw_270 dX10_init_34 ?_
  refine V_w (w' := (t + 105, (va_up O t (some (.inr (10, [ob g (t + 1), ob g (t + 11), ob g (t + 93), .null, .null, .null, .null])))))) rfl ?_
  refine V_aload_n hC rfl dX10_init_37 ?_
  refine V_new (ci := 7) (fs := [.null, .null, .null, .null, .null, .int 0, .int 0, .int 0, .int 0, .int 0, .int 0]) hC rfl iw_7 tyX7 tyX7_ok tw_164 tw_165 tw_8 dfl_7 ⟨by rw [hR.1]; exact Nat.le_of_ble_eq_true rfl, by rw [hR.2]; exact Nat.le_of_ble_eq_true rfl⟩ dX10_init_38 ?_
  refine V_dup hC rfl dX10_init_41 ?_
  refine V_icallN hC (c_St_init X.2.1 g (va_up O t (some (.inr (10, [ob g (t + 1), ob g (t + 11), ob g (t + 93), .null, .null, .null, .null])))) fu _ (t + 105) M3 (kx_10_105 t (kd_lt hk (by decide)) hk) (fun c hc => (up_va (by omega)).trans (hO c (by omega))) h) mw_X7_init (by decide) tw_166 (Nat.le_of_ble_eq_true rfl) ⟨by rw [hR.1]; exact Nat.le_of_ble_eq_true rfl, by rw [hR.2]; exact Nat.le_of_ble_eq_true rfl⟩ dX10_init_42 (fun M4 h => ?_)
  refine V_w (w' := (t + 123, (va_up O t (some (.inr (10, [ob g (t + 1), ob g (t + 11), ob g (t + 93), .null, .null, .null, .null])))))) rfl ?_
  refine V_putO hC hname (by omega) (ci := 10) rfl iw_10 tyX10 tyX10_ok nmX10 3 (by decide) rfl rfl (ty := .object "SyntaxRepair$ScriptTable") (by decide +kernel) rfl rfl (Nat.le_of_ble_eq_true rfl) tw_271 dX10_init_45 ?_
  refine V_w (w' := (t + 123, (va_up O t (some (.inr (10, [ob g (t + 1), ob g (t + 11), ob g (t + 93), ob g (t + 105), .null, .null, .null])))))) rfl ?_
  refine V_aload_n hC rfl dX10_init_48 ?_
  refine V_new (ci := 7) (fs := [.null, .null, .null, .null, .null, .int 0, .int 0, .int 0, .int 0, .int 0, .int 0]) hC rfl iw_7 tyX7 tyX7_ok tw_164 tw_165 tw_8 dfl_7 ⟨by rw [hR.1]; exact Nat.le_of_ble_eq_true rfl, by rw [hR.2]; exact Nat.le_of_ble_eq_true rfl⟩ dX10_init_49 ?_
  refine V_dup hC rfl dX10_init_52 ?_
  refine V_icallN hC (c_St_init X.2.1 g (va_up O t (some (.inr (10, [ob g (t + 1), ob g (t + 11), ob g (t + 93), ob g (t + 105), .null, .null, .null])))) fu _ (t + 123) M4 (kx_10_123 t (kd_lt hk (by decide)) hk) (fun c hc => (up_va (by omega)).trans (hO c (by omega))) h) mw_X7_init (by decide) tw_166 (Nat.le_of_ble_eq_true rfl) ⟨by rw [hR.1]; exact Nat.le_of_ble_eq_true rfl, by rw [hR.2]; exact Nat.le_of_ble_eq_true rfl⟩ dX10_init_53 (fun M5 h => ?_)
  refine V_w (w' := (t + 141, (va_up O t (some (.inr (10, [ob g (t + 1), ob g (t + 11), ob g (t + 93), ob g (t + 105), .null, .null, .null])))))) rfl ?_
  refine V_putO hC hname (by omega) (ci := 10) rfl iw_10 tyX10 tyX10_ok nmX10 4 (by decide) rfl rfl (ty := .object "SyntaxRepair$ScriptTable") (by decide +kernel) rfl rfl (Nat.le_of_ble_eq_true rfl) tw_272 dX10_init_56 ?_
  refine V_w (w' := (t + 141, (va_up O t (some (.inr (10, [ob g (t + 1), ob g (t + 11), ob g (t + 93), ob g (t + 105), ob g (t + 123), .null, .null])))))) rfl ?_
  refine V_aload_n hC rfl dX10_init_59 ?_
  refine V_new (ci := 6) (fs := [.null, .null, .int 0]) hC rfl iw_6 tyX6 tyX6_ok tw_227 tw_228 tw_10 dfl_6 ⟨by rw [hR.1]; exact Nat.le_of_ble_eq_true rfl, by rw [hR.2]; exact Nat.le_of_ble_eq_true rfl⟩ dX10_init_60 ?_
  refine V_dup hC rfl dX10_init_63 ?_
  refine V_icallN hC (c_Sc_init X.2.1 g (va_up O t (some (.inr (10, [ob g (t + 1), ob g (t + 11), ob g (t + 93), ob g (t + 105), ob g (t + 123), .null, .null])))) fu _ (t + 141) M5 (kx_10_141 t (kd_lt hk (by decide)) hk) (fun c hc => (up_va (by omega)).trans (hO c (by omega))) h) mw_X6_init (by decide) tw_229 (Nat.le_of_ble_eq_true rfl) ⟨by rw [hR.1]; exact Nat.le_of_ble_eq_true rfl, by rw [hR.2]; exact Nat.le_of_ble_eq_true rfl⟩ dX10_init_64 (fun M6 h => ?_)
  refine V_w (w' := (t + 144, (va_up O t (some (.inr (10, [ob g (t + 1), ob g (t + 11), ob g (t + 93), ob g (t + 105), ob g (t + 123), .null, .null])))))) rfl ?_
  refine V_putO hC hname (by omega) (ci := 10) rfl iw_10 tyX10 tyX10_ok nmX10 5 (by decide) rfl rfl (ty := .object "SyntaxRepair$Script") (by decide +kernel) rfl rfl (Nat.le_of_ble_eq_true rfl) tw_273 dX10_init_67 ?_
  refine V_w (w' := (t + 144, (va_up O t (some (.inr (10, [ob g (t + 1), ob g (t + 11), ob g (t + 93), ob g (t + 105), ob g (t + 123), ob g (t + 141), .null])))))) rfl ?_
  refine V_aload_n hC rfl dX10_init_70 ?_
  refine V_new (ci := 2) (fs := [.int 0, .int 0]) hC rfl iw_2 tyX2 tyX2_ok tw_246 tw_247 tw_11 dfl_2 ⟨by rw [hR.1]; exact Nat.le_of_ble_eq_true rfl, by rw [hR.2]; exact Nat.le_of_ble_eq_true rfl⟩ dX10_init_71 ?_
  refine V_dup hC rfl dX10_init_74 ?_
  refine V_icallN hC (c_Cu_init X.2.1 g (va_up O t (some (.inr (10, [ob g (t + 1), ob g (t + 11), ob g (t + 93), ob g (t + 105), ob g (t + 123), ob g (t + 141), .null])))) fu _ (t + 144) M6 (kx_10_144 t (kd_lt hk (by decide)) hk) (fun c hc => (up_va (by omega)).trans (hO c (by omega))) h) mw_X2_init (by decide) tw_248 (Nat.le_of_ble_eq_true rfl) ⟨by rw [hR.1]; exact Nat.le_of_ble_eq_true rfl, by rw [hR.2]; exact Nat.le_of_ble_eq_true rfl⟩ dX10_init_75 (fun M7 h => ?_)
  refine V_w (w' := (t + 145, (va_up O t (some (.inr (10, [ob g (t + 1), ob g (t + 11), ob g (t + 93), ob g (t + 105), ob g (t + 123), ob g (t + 141), .null])))))) rfl ?_
  refine V_putO hC hname (by omega) (ci := 10) rfl iw_10 tyX10 tyX10_ok nmX10 6 (by decide) rfl rfl (ty := .object "SyntaxRepair$Cursor") (by decide +kernel) rfl rfl (Nat.le_of_ble_eq_true rfl) tw_274 dX10_init_78 ?_
  refine V_w (w' := (t + 145, (va_up O t (some (.inr (10, [ob g (t + 1), ob g (t + 11), ob g (t + 93), ob g (t + 105), ob g (t + 123), ob g (t + 141), ob g (t + 144)])))))) rfl ?_
  refine V_fin (hO t (Nat.le_refl t)) (fin_eq (by rw [ent_10 hk])) ?_
  refine V_aload_n hC rfl dX10_init_81 ?_
  refine gf_10_0 hC (ok_new hk rfl hO) tw_268 dX10_init_82 ?_
  refine gfN_8_0 hC (ok_10_0 (ok_new hk rfl hO)) tw_99 dX10_init_85 ?_
  refine V_iconst (v := 0) hC (by decide) dX10_init_88 ?_
  refine V_callv (As := [.int 0]) hC (c_Au_setAccepting X.2.1 g _ fu _ (t + 2) 0 M7 (ok_8_0 (ok_10_0 (ok_new hk rfl hO))) h) mw_X0_setAccepting (by decide) tw_263 (ok_8_0 (ok_10_0 (ok_new hk rfl hO))) (by decide) rfl rfl rfl (Nat.le_of_ble_eq_true rfl) ⟨by rw [hR.1]; exact Nat.le_of_ble_eq_true rfl, by rw [hR.2]; exact Nat.le_of_ble_eq_true rfl⟩ dX10_init_89 (fun M8 h => ?_)
  exact V_vret hC h dX10_init_92
def f_Md_init (fu : Nat) (post : Mm → Prop) (t : Nat) (M : Mm) : Prop :=
  (∀ j, M (t + 1) j = 0) ∧ (∀ j, M (t + 2) j = 0) ∧ (∀ j, M (t + 3) j = 0) ∧ (∀ j, M (t + 4) j = 0) ∧ (∀ j, M (t + 5) j = 0) ∧ (∀ j, M (t + 6) j = 0) ∧ (∀ j, M (t + 7) j = 0) ∧ (∀ j, M (t + 8) j = 0) ∧ (∀ j, M (t + 9) j = 0) ∧ (∀ j, M (t + 10) j = 0) ∧ (∀ j, M t j = 0) ∧ f_Md_clearData fu (fun M1 => vp_in 0 (ln (t + 1)) ∧ (∀ M2, M2 = up M1 (t + 1) 0 1 → vp_in 1 (ln (t + 1)) ∧ (∀ M3, M3 = up M2 (t + 1) 1 1 → post M3))) (t + 1) M
set_option maxRecDepth 100000 in
set_option maxHeartbeats 4000000 in
theorem c_Md_init (l : Launch) (g : GX) (O : Nat → Option va_E) (fu : Nat) (post : Mm → Prop) (t : Nat) (M : Mm) (hk : kd t = 11) (hO : ∀ c, t ≤ c → O c = none) (h : f_Md_init fu post t M) : Met l yX11_init [Cond.code yX11_init cX11_init 1 none] (rmC 1 10 8328) (va_Pc [ob g t] (Wb g (t + 1, va_up O t (some (.inr (11, [.null, .null, .null, .int 0, .null, .int 0, .int 0, .int 0, .int 0, .long 0, .int 0, .int 0, .int 0, .null, .null, .null, .int 0, .int 0, .int 0, .null, .null, .int 0, .int 0, .null])))) M)) (va_Qv post (Wb g (t + 11, O)) (Af g)) 10 8328 (Af g) := by
  refine Ct_c (by decide) rfl rfl (by decide) ?_
  intro X hX hC hname hR
  unfold f_Md_init at h
  refine V_sub (us := [some (ob g t)]) ⟨rfl, trivial⟩ ?_
  refine V_aload_n hC rfl dX11_init_0 ?_
  refine V_objInit hC tw_813 tw_oi1 tw_oi2 (by decide) (Nat.le_of_ble_eq_true rfl) dX11_init_1 ?_
  refine V_aload_n hC rfl dX11_init_4 ?_
  refine V_bipush (v := 69) hC (by decide) dX11_init_5 ?_
  obtain ⟨hz1, h⟩ := h
  refine V_newa (L := 69) hC tw_56 (by decide) (by decide) (by decide) (kx_11_1 t (kd_lt hk (by decide)) hk) (lx_11_1 t (kd_lt hk (by decide)) hk) ((up_va (by omega)).trans (hO _ (by omega))) hz1 ⟨by rw [hR.1]; exact Nat.le_of_ble_eq_true rfl, by rw [hR.2]; exact Nat.le_of_ble_eq_true rfl⟩ dX11_init_7 ?_
  refine V_putO hC hname (by omega) (ci := 11) rfl iw_11 tyX11 tyX11_ok nmX11 0 (by decide) rfl rfl (ty := .array .int) (by decide +kernel) rfl rfl (Nat.le_of_ble_eq_true rfl) tw_817 dX11_init_9 ?_
  refine V_w (w' := (t + 2, (va_up O t (some (.inr (11, [ob g (t + 1), .null, .null, .int 0, .null, .int 0, .int 0, .int 0, .int 0, .long 0, .int 0, .int 0, .int 0, .null, .null, .null, .int 0, .int 0, .int 0, .null, .null, .int 0, .int 0, .null])))))) rfl ?_
  refine V_aload_n hC rfl dX11_init_12 ?_
  refine V_bipush (v := 69) hC (by decide) dX11_init_13 ?_
  obtain ⟨hz2, h⟩ := h
  refine V_newa (L := 69) hC tw_56 (by decide) (by decide) (by decide) (kx_11_2 t (kd_lt hk (by decide)) hk) (lx_11_2 t (kd_lt hk (by decide)) hk) ((up_va (by omega)).trans (hO _ (by omega))) hz2 ⟨by rw [hR.1]; exact Nat.le_of_ble_eq_true rfl, by rw [hR.2]; exact Nat.le_of_ble_eq_true rfl⟩ dX11_init_15 ?_
  refine V_putO hC hname (by omega) (ci := 11) rfl iw_11 tyX11 tyX11_ok nmX11 1 (by decide) rfl rfl (ty := .array .int) (by decide +kernel) rfl rfl (Nat.le_of_ble_eq_true rfl) tw_818 dX11_init_17 ?_
  refine V_w (w' := (t + 3, (va_up O t (some (.inr (11, [ob g (t + 1), ob g (t + 2), .null, .int 0, .null, .int 0, .int 0, .int 0, .int 0, .long 0, .int 0, .int 0, .int 0, .null, .null, .null, .int 0, .int 0, .int 0, .null, .null, .int 0, .int 0, .null])))))) rfl ?_
  refine V_aload_n hC rfl dX11_init_20 ?_
  refine V_sipush (v := 552) hC (by decide) dX11_init_21 ?_
  obtain ⟨hz3, h⟩ := h
  refine V_newa (L := 552) hC tw_56 (by decide) (by decide) (by decide) (kx_11_3 t (kd_lt hk (by decide)) hk) (lx_11_3 t (kd_lt hk (by decide)) hk) ((up_va (by omega)).trans (hO _ (by omega))) hz3 ⟨by rw [hR.1]; exact Nat.le_of_ble_eq_true rfl, by rw [hR.2]; exact Nat.le_of_ble_eq_true rfl⟩ dX11_init_24 ?_
  refine V_putO hC hname (by omega) (ci := 11) rfl iw_11 tyX11 tyX11_ok nmX11 2 (by decide) rfl rfl (ty := .array .int) (by decide +kernel) rfl rfl (Nat.le_of_ble_eq_true rfl) tw_819 dX11_init_26 ?_
  refine V_w (w' := (t + 4, (va_up O t (some (.inr (11, [ob g (t + 1), ob g (t + 2), ob g (t + 3), .int 0, .null, .int 0, .int 0, .int 0, .int 0, .long 0, .int 0, .int 0, .int 0, .null, .null, .null, .int 0, .int 0, .int 0, .null, .null, .int 0, .int 0, .null])))))) rfl ?_
  refine V_aload_n hC rfl dX11_init_29 ?_
  refine V_sipush (v := 150) hC (by decide) dX11_init_30 ?_
  obtain ⟨hz4, h⟩ := h
  refine V_newa (L := 150) hC tw_56 (by decide) (by decide) (by decide) (kx_11_4 t (kd_lt hk (by decide)) hk) (lx_11_4 t (kd_lt hk (by decide)) hk) ((up_va (by omega)).trans (hO _ (by omega))) hz4 ⟨by rw [hR.1]; exact Nat.le_of_ble_eq_true rfl, by rw [hR.2]; exact Nat.le_of_ble_eq_true rfl⟩ dX11_init_33 ?_
  refine V_putO hC hname (by omega) (ci := 11) rfl iw_11 tyX11 tyX11_ok nmX11 4 (by decide) rfl rfl (ty := .array .int) (by decide +kernel) rfl rfl (Nat.le_of_ble_eq_true rfl) tw_821 dX11_init_35 ?_
  refine V_w (w' := (t + 5, (va_up O t (some (.inr (11, [ob g (t + 1), ob g (t + 2), ob g (t + 3), .int 0, ob g (t + 4), .int 0, .int 0, .int 0, .int 0, .long 0, .int 0, .int 0, .int 0, .null, .null, .null, .int 0, .int 0, .int 0, .null, .null, .int 0, .int 0, .null])))))) rfl ?_
  refine V_aload_n hC rfl dX11_init_38 ?_
  refine V_sipush (v := 1248) hC (by decide) dX11_init_39 ?_
  obtain ⟨hz5, h⟩ := h
  refine V_newa (L := 1248) hC tw_56 (by decide) (by decide) (by decide) (kx_11_5 t (kd_lt hk (by decide)) hk) (lx_11_5 t (kd_lt hk (by decide)) hk) ((up_va (by omega)).trans (hO _ (by omega))) hz5 ⟨by rw [hR.1]; exact Nat.le_of_ble_eq_true rfl, by rw [hR.2]; exact Nat.le_of_ble_eq_true rfl⟩ dX11_init_42 ?_
  refine V_putO hC hname (by omega) (ci := 11) rfl iw_11 tyX11 tyX11_ok nmX11 13 (by decide) rfl rfl (ty := .array .int) (by decide +kernel) rfl rfl (Nat.le_of_ble_eq_true rfl) tw_830 dX11_init_44 ?_
  refine V_w (w' := (t + 6, (va_up O t (some (.inr (11, [ob g (t + 1), ob g (t + 2), ob g (t + 3), .int 0, ob g (t + 4), .int 0, .int 0, .int 0, .int 0, .long 0, .int 0, .int 0, .int 0, ob g (t + 5), .null, .null, .int 0, .int 0, .int 0, .null, .null, .int 0, .int 0, .null])))))) rfl ?_
  refine V_aload_n hC rfl dX11_init_47 ?_
  refine V_sipush (v := 1248) hC (by decide) dX11_init_48 ?_
  obtain ⟨hz6, h⟩ := h
  refine V_newa (L := 1248) hC tw_56 (by decide) (by decide) (by decide) (kx_11_6 t (kd_lt hk (by decide)) hk) (lx_11_6 t (kd_lt hk (by decide)) hk) ((up_va (by omega)).trans (hO _ (by omega))) hz6 ⟨by rw [hR.1]; exact Nat.le_of_ble_eq_true rfl, by rw [hR.2]; exact Nat.le_of_ble_eq_true rfl⟩ dX11_init_51 ?_
  refine V_putO hC hname (by omega) (ci := 11) rfl iw_11 tyX11 tyX11_ok nmX11 14 (by decide) rfl rfl (ty := .array .int) (by decide +kernel) rfl rfl (Nat.le_of_ble_eq_true rfl) tw_831 dX11_init_53 ?_
  refine V_w (w' := (t + 7, (va_up O t (some (.inr (11, [ob g (t + 1), ob g (t + 2), ob g (t + 3), .int 0, ob g (t + 4), .int 0, .int 0, .int 0, .int 0, .long 0, .int 0, .int 0, .int 0, ob g (t + 5), ob g (t + 6), .null, .int 0, .int 0, .int 0, .null, .null, .int 0, .int 0, .null])))))) rfl ?_
  refine V_aload_n hC rfl dX11_init_56 ?_
  refine V_sipush (v := 1248) hC (by decide) dX11_init_57 ?_
  obtain ⟨hz7, h⟩ := h
  refine V_newa (L := 1248) hC tw_56 (by decide) (by decide) (by decide) (kx_11_7 t (kd_lt hk (by decide)) hk) (lx_11_7 t (kd_lt hk (by decide)) hk) ((up_va (by omega)).trans (hO _ (by omega))) hz7 ⟨by rw [hR.1]; exact Nat.le_of_ble_eq_true rfl, by rw [hR.2]; exact Nat.le_of_ble_eq_true rfl⟩ dX11_init_60 ?_
  refine V_putO hC hname (by omega) (ci := 11) rfl iw_11 tyX11 tyX11_ok nmX11 15 (by decide) rfl rfl (ty := .array .int) (by decide +kernel) rfl rfl (Nat.le_of_ble_eq_true rfl) tw_832 dX11_init_62 ?_
  refine V_w (w' := (t + 8, (va_up O t (some (.inr (11, [ob g (t + 1), ob g (t + 2), ob g (t + 3), .int 0, ob g (t + 4), .int 0, .int 0, .int 0, .int 0, .long 0, .int 0, .int 0, .int 0, ob g (t + 5), ob g (t + 6), ob g (t + 7), .int 0, .int 0, .int 0, .null, .null, .int 0, .int 0, .null])))))) rfl ?_
  refine V_aload_n hC rfl dX11_init_65 ?_
  refine V_sipush (v := 1248) hC (by decide) dX11_init_66 ?_
  obtain ⟨hz8, h⟩ := h
  refine V_newa (L := 1248) hC tw_56 (by decide) (by decide) (by decide) (kx_11_8 t (kd_lt hk (by decide)) hk) (lx_11_8 t (kd_lt hk (by decide)) hk) ((up_va (by omega)).trans (hO _ (by omega))) hz8 ⟨by rw [hR.1]; exact Nat.le_of_ble_eq_true rfl, by rw [hR.2]; exact Nat.le_of_ble_eq_true rfl⟩ dX11_init_69 ?_
  refine V_putO hC hname (by omega) (ci := 11) rfl iw_11 tyX11 tyX11_ok nmX11 19 (by decide) rfl rfl (ty := .array .int) (by decide +kernel) rfl rfl (Nat.le_of_ble_eq_true rfl) tw_836 dX11_init_71 ?_
  refine V_w (w' := (t + 9, (va_up O t (some (.inr (11, [ob g (t + 1), ob g (t + 2), ob g (t + 3), .int 0, ob g (t + 4), .int 0, .int 0, .int 0, .int 0, .long 0, .int 0, .int 0, .int 0, ob g (t + 5), ob g (t + 6), ob g (t + 7), .int 0, .int 0, .int 0, ob g (t + 8), .null, .int 0, .int 0, .null])))))) rfl ?_
  refine V_aload_n hC rfl dX11_init_74 ?_
  refine V_sipush (v := 1248) hC (by decide) dX11_init_75 ?_
  obtain ⟨hz9, h⟩ := h
  refine V_newa (L := 1248) hC tw_56 (by decide) (by decide) (by decide) (kx_11_9 t (kd_lt hk (by decide)) hk) (lx_11_9 t (kd_lt hk (by decide)) hk) ((up_va (by omega)).trans (hO _ (by omega))) hz9 ⟨by rw [hR.1]; exact Nat.le_of_ble_eq_true rfl, by rw [hR.2]; exact Nat.le_of_ble_eq_true rfl⟩ dX11_init_78 ?_
  refine V_putO hC hname (by omega) (ci := 11) rfl iw_11 tyX11 tyX11_ok nmX11 20 (by decide) rfl rfl (ty := .array .int) (by decide +kernel) rfl rfl (Nat.le_of_ble_eq_true rfl) tw_837 dX11_init_80 ?_
  refine V_w (w' := (t + 10, (va_up O t (some (.inr (11, [ob g (t + 1), ob g (t + 2), ob g (t + 3), .int 0, ob g (t + 4), .int 0, .int 0, .int 0, .int 0, .long 0, .int 0, .int 0, .int 0, ob g (t + 5), ob g (t + 6), ob g (t + 7), .int 0, .int 0, .int 0, ob g (t + 8), ob g (t + 9), .int 0, .int 0, .null])))))) rfl ?_
  refine V_aload_n hC rfl dX11_init_83 ?_
  refine V_sipush (v := 1248) hC (by decide) dX11_init_84 ?_
  obtain ⟨hz10, h⟩ := h
  refine V_newa (L := 1248) hC tw_56 (by decide) (by decide) (by decide) (kx_11_10 t (kd_lt hk (by decide)) hk) (lx_11_10 t (kd_lt hk (by decide)) hk) ((up_va (by omega)).trans (hO _ (by omega))) hz10 ⟨by rw [hR.1]; exact Nat.le_of_ble_eq_true rfl, by rw [hR.2]; exact Nat.le_of_ble_eq_true rfl⟩ dX11_init_87 ?_
  refine V_putO hC hname (by omega) (ci := 11) rfl iw_11 tyX11 tyX11_ok nmX11 23 (by decide) rfl rfl (ty := .array .int) (by decide +kernel) rfl rfl (Nat.le_of_ble_eq_true rfl) tw_840 dX11_init_89 ?_
  refine V_w (w' := (t + 11, (va_up O t (some (.inr (11, [ob g (t + 1), ob g (t + 2), ob g (t + 3), .int 0, ob g (t + 4), .int 0, .int 0, .int 0, .int 0, .long 0, .int 0, .int 0, .int 0, ob g (t + 5), ob g (t + 6), ob g (t + 7), .int 0, .int 0, .int 0, ob g (t + 8), ob g (t + 9), .int 0, .int 0, ob g (t + 10)])))))) rfl ?_
  obtain ⟨hz0, h⟩ := h
  refine V_fin (hO t (Nat.le_refl t)) (fin_eq (by rw [ent_11 hk]; simp [hz0, mkL0])) ?_
  refine V_aload_n hC rfl dX11_init_92 ?_
  refine gf_11_0 hC (ok_new hk rfl hO) tw_817 dX11_init_93 ?_
  refine V_scallv (As := [ob g (t + 1)]) hC (c_Md_clearData X.2.1 g _ fu _ (t + 1) M (ok_11_0 (ok_new hk rfl hO)) h) mw_X11_clearData (by decide) tw_814 rfl rfl (Nat.le_of_ble_eq_true rfl) ⟨by rw [hR.1]; exact Nat.le_of_ble_eq_true rfl, by rw [hR.2]; exact Nat.le_of_ble_eq_true rfl⟩ dX11_init_96 (fun M1 h => ?_)
  refine V_aload_n hC rfl dX11_init_99 ?_
  refine gf_11_0 hC (ok_new hk rfl hO) tw_817 dX11_init_100 ?_
  refine V_iconst (v := 0) hC (by decide) dX11_init_103 ?_
  refine V_iconst (v := 1) hC (by decide) dX11_init_104 ?_
  obtain ⟨q2, h⟩ := h
  refine V_isL (j := 0) (by decide) hC (ok_11_0 (ok_new hk rfl hO)) q2 dX11_init_105 ?_
  obtain ⟨M2, eM2⟩ : ∃ z, z = up M1 (t + 1) 0 1 := ⟨_, rfl⟩
  replace h := h M2 eM2
  refine V_mem eM2 ?_
  refine V_aload_n hC rfl dX11_init_106 ?_
  refine gf_11_0 hC (ok_new hk rfl hO) tw_817 dX11_init_107 ?_
  refine V_iconst (v := 1) hC (by decide) dX11_init_110 ?_
  refine V_iconst (v := 1) hC (by decide) dX11_init_111 ?_
  obtain ⟨q3, h⟩ := h
  refine V_isL (j := 1) (by decide) hC (ok_11_0 (ok_new hk rfl hO)) q3 dX11_init_112 ?_
  obtain ⟨M3, eM3⟩ : ∃ z, z = up M2 (t + 1) 1 1 := ⟨_, rfl⟩
  replace h := h M3 eM3
  refine V_mem eM3 ?_
  exact V_vret hC h dX11_init_113
