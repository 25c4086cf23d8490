theorem w_obj : Cond.instanceMethod objectInit ∈ gtbl ∧ Cond.code objectInit ⟨#[0xb1]⟩ 1 none ∈ gtbl := ⟨tm1 28 rfl rfl, tm1 29 rfl rfl⟩
theorem w_aint : Cond.arrayClass .int ∈ gtbl := tm1 54 rfl rfl
theorem w_along : Cond.arrayClass .long ∈ gtbl := tm1 143 rfl rfl
theorem w_abyte : Cond.arrayClass .byte ∈ gtbl := tm4 28 rfl rfl
theorem w_aboolean : Cond.arrayClass .boolean ∈ gtbl := tm6 205 rfl rfl
theorem nL_7 : Cond.classLink RL 7 RX11 ∈ gtbl ∧ Cond.instantiable RX11 14 ∈ gtbl ∧ Cond.initialized RX11 ∈ gtbl := ⟨tm1 22 rfl rfl, tm1 23 rfl rfl, tm1 1 rfl rfl⟩
theorem iL_9 : Cond.methodLink RL 9 yX11_init ∈ gtbl := tm1 24 rfl rfl
theorem iX11_3 : Cond.methodLink RX11 3 objectInit ∈ gtbl := tm1 27 rfl rfl
theorem nX11_9 : Cond.classLink RX11 9 RX8 ∈ gtbl ∧ Cond.instantiable RX8 5 ∈ gtbl ∧ Cond.initialized RX8 ∈ gtbl := ⟨tm1 30 rfl rfl, tm1 31 rfl rfl, tm1 2 rfl rfl⟩
theorem iX11_11 : Cond.methodLinkNest RX11 11 yX8_init "NoEcho" ∈ ntbl := tn1 32 rfl rfl
theorem iX8_3 : Cond.methodLink RX8 3 objectInit ∈ gtbl := tm1 35 rfl rfl
theorem nX11_12 : Cond.classLink RX11 12 RX9 ∈ gtbl ∧ Cond.instantiable RX9 6 ∈ gtbl ∧ Cond.initialized RX9 ∈ gtbl := ⟨tm1 55 rfl rfl, tm1 56 rfl rfl, tm1 3 rfl rfl⟩
theorem iX11_14 : Cond.methodLinkNest RX11 14 yX9_init "NoEcho" ∈ ntbl := tn1 57 rfl rfl
theorem iX9_3 : Cond.methodLink RX9 3 objectInit ∈ gtbl := tm1 60 rfl rfl
theorem nX9_21 : Cond.classLink RX9 21 RX2 ∈ gtbl ∧ Cond.instantiable RX2 12 ∈ gtbl ∧ Cond.initialized RX2 ∈ gtbl := ⟨tm1 61 rfl rfl, tm1 62 rfl rfl, tm1 4 rfl rfl⟩
theorem iX9_23 : Cond.methodLinkNest RX9 23 yX2_init "NoEcho" ∈ ntbl := tn1 63 rfl rfl
theorem iX2_3 : Cond.methodLink RX2 3 objectInit ∈ gtbl := tm1 66 rfl rfl
theorem nX11_15 : Cond.classLink RX11 15 RX3 ∈ gtbl ∧ Cond.instantiable RX3 2 ∈ gtbl ∧ Cond.initialized RX3 ∈ gtbl := ⟨tm1 130 rfl rfl, tm1 131 rfl rfl, tm1 5 rfl rfl⟩
theorem iX11_17 : Cond.methodLinkNest RX11 17 yX3_init "NoEcho" ∈ ntbl := tn1 132 rfl rfl
theorem iX3_3 : Cond.methodLink RX3 3 objectInit ∈ gtbl := tm1 135 rfl rfl
theorem nX11_22 : Cond.classLink RX11 22 RX4 ∈ gtbl ∧ Cond.instantiable RX4 2 ∈ gtbl ∧ Cond.initialized RX4 ∈ gtbl := ⟨tm1 144 rfl rfl, tm1 145 rfl rfl, tm1 6 rfl rfl⟩
theorem iX11_24 : Cond.methodLink RX11 24 yX4_init ∈ gtbl := tm1 146 rfl rfl
theorem iX4_3 : Cond.methodLink RX4 3 objectInit ∈ gtbl := tm1 149 rfl rfl
theorem nX4_15 : Cond.classLink RX4 15 RX2 ∈ gtbl ∧ Cond.instantiable RX2 12 ∈ gtbl ∧ Cond.initialized RX2 ∈ gtbl := ⟨tm1 150 rfl rfl, tm1 62 rfl rfl, tm1 4 rfl rfl⟩
theorem iX4_17 : Cond.methodLinkNest RX4 17 yX2_init "NoEcho" ∈ ntbl := tn1 151 rfl rfl
theorem nX11_35 : Cond.classLink RX11 35 RX7 ∈ gtbl ∧ Cond.instantiable RX7 5 ∈ gtbl ∧ Cond.initialized RX7 ∈ gtbl := ⟨tm1 159 rfl rfl, tm1 160 rfl rfl, tm1 7 rfl rfl⟩
theorem iX11_37 : Cond.methodLinkNest RX11 37 yX7_init "NoEcho" ∈ ntbl := tn1 161 rfl rfl
theorem iX7_3 : Cond.methodLink RX7 3 objectInit ∈ gtbl := tm1 164 rfl rfl
theorem nX11_49 : Cond.classLink RX11 49 RX1 ∈ gtbl ∧ Cond.instantiable RX1 14 ∈ gtbl ∧ Cond.initialized RX1 ∈ gtbl := ⟨tm1 187 rfl rfl, tm1 188 rfl rfl, tm1 8 rfl rfl⟩
theorem iX11_51 : Cond.methodLink RX11 51 yX1_init ∈ gtbl := tm1 189 rfl rfl
theorem iX1_3 : Cond.methodLink RX1 3 objectInit ∈ gtbl := tm1 192 rfl rfl
theorem nX11_58 : Cond.classLink RX11 58 RX0 ∈ gtbl ∧ Cond.instantiable RX0 14 ∈ gtbl ∧ Cond.initialized RX0 ∈ gtbl := ⟨tm1 236 rfl rfl, tm1 237 rfl rfl, tm1 9 rfl rfl⟩
theorem iX11_60 : Cond.methodLink RX11 60 yX0_init ∈ gtbl := tm1 238 rfl rfl
theorem iX0_3 : Cond.methodLink RX0 3 objectInit ∈ gtbl := tm2 1 rfl rfl
theorem nX11_65 : Cond.classLink RX11 65 RX6 ∈ gtbl ∧ Cond.instantiable RX6 13 ∈ gtbl ∧ Cond.initialized RX6 ∈ gtbl := ⟨tm2 45 rfl rfl, tm2 46 rfl rfl, tm1 10 rfl rfl⟩
theorem iX11_67 : Cond.methodLink RX11 67 yX6_init ∈ gtbl := tm2 47 rfl rfl
theorem iX6_3 : Cond.methodLink RX6 3 objectInit ∈ gtbl := tm2 50 rfl rfl
theorem nX11_72 : Cond.classLink RX11 72 RX10 ∈ gtbl ∧ Cond.instantiable RX10 11 ∈ gtbl ∧ Cond.initialized RX10 ∈ gtbl := ⟨tm2 91 rfl rfl, tm2 92 rfl rfl, tm1 11 rfl rfl⟩
theorem iX11_74 : Cond.methodLink RX11 74 yX10_init ∈ gtbl := tm2 93 rfl rfl
theorem iX10_3 : Cond.methodLink RX10 3 objectInit ∈ gtbl := tm2 96 rfl rfl
theorem nX11_81 : Cond.classLink RX11 81 RX5 ∈ gtbl ∧ Cond.instantiable RX5 9 ∈ gtbl ∧ Cond.initialized RX5 ∈ gtbl := ⟨tm2 131 rfl rfl, tm2 132 rfl rfl, tm1 12 rfl rfl⟩
theorem iX11_83 : Cond.methodLink RX11 83 yX5_init ∈ gtbl := tm2 133 rfl rfl
theorem iX5_3 : Cond.methodLink RX5 3 objectInit ∈ gtbl := tm2 136 rfl rfl
theorem nL_10 : Cond.classLink RL 10 RX12 ∈ gtbl ∧ Cond.instantiable RX12 70 ∈ gtbl ∧ Cond.initialized RX12 ∈ gtbl := ⟨tm5 228 rfl rfl, tm5 229 rfl rfl, tm1 13 rfl rfl⟩
theorem iL_12 : Cond.methodLink RL 12 yX12_init ∈ gtbl := tm5 230 rfl rfl
theorem iX12_1 : Cond.methodLink RX12 1 objectInit ∈ gtbl := tm5 233 rfl rfl
def QX0_init : QM := (RX0, yX0_init, cX0_init, 3, none, none)
theorem bX0_init : mbI QX0_init 2 := ⟨⟨tm2 0 rfl rfl, tm1 9 rfl rfl, by decide, by decide, by decide +kernel, by decide⟩, tm1 239 rfl rfl, rfl, rfl⟩
def QX1_init : QM := (RX1, yX1_init, cX1_init, 3, none, none)
theorem bX1_init : mbI QX1_init 2 := ⟨⟨tm1 191 rfl rfl, tm1 8 rfl rfl, by decide, by decide, by decide +kernel, by decide⟩, tm1 190 rfl rfl, rfl, rfl⟩
def QX2_init : QM := (RX2, yX2_init, cX2_init, 1, none, none)
theorem bX2_init : mbI QX2_init 0 := ⟨⟨tm1 65 rfl rfl, tm1 4 rfl rfl, by decide, by decide, by decide +kernel, by decide⟩, tm1 64 rfl rfl, rfl, rfl⟩
def QX3_init : QM := (RX3, yX3_init, cX3_init, 1, none, none)
theorem bX3_init : mbI QX3_init 0 := ⟨⟨tm1 134 rfl rfl, tm1 5 rfl rfl, by decide, by decide, by decide +kernel, by decide⟩, tm1 133 rfl rfl, rfl, rfl⟩
def QX4_init : QM := (RX4, yX4_init, cX4_init, 2, none, none)
theorem bX4_init : mbI QX4_init 1 := ⟨⟨tm1 148 rfl rfl, tm1 6 rfl rfl, by decide, by decide, by decide +kernel, by decide⟩, tm1 147 rfl rfl, rfl, rfl⟩
def QX5_init : QM := (RX5, yX5_init, cX5_init, 3, none, none)
theorem bX5_init : mbI QX5_init 2 := ⟨⟨tm2 135 rfl rfl, tm1 12 rfl rfl, by decide, by decide, by decide +kernel, by decide⟩, tm2 134 rfl rfl, rfl, rfl⟩
def QX6_init : QM := (RX6, yX6_init, cX6_init, 3, none, none)
theorem bX6_init : mbI QX6_init 2 := ⟨⟨tm2 49 rfl rfl, tm1 10 rfl rfl, by decide, by decide, by decide +kernel, by decide⟩, tm2 48 rfl rfl, rfl, rfl⟩
def QX7_init : QM := (RX7, yX7_init, cX7_init, 1, none, none)
theorem bX7_init : mbI QX7_init 0 := ⟨⟨tm1 163 rfl rfl, tm1 7 rfl rfl, by decide, by decide, by decide +kernel, by decide⟩, tm1 162 rfl rfl, rfl, rfl⟩
def QX8_init : QM := (RX8, yX8_init, cX8_init, 1, none, none)
theorem bX8_init : mbI QX8_init 0 := ⟨⟨tm1 34 rfl rfl, tm1 2 rfl rfl, by decide, by decide, by decide +kernel, by decide⟩, tm1 33 rfl rfl, rfl, rfl⟩
def QX9_init : QM := (RX9, yX9_init, cX9_init, 1, none, none)
theorem bX9_init : mbI QX9_init 0 := ⟨⟨tm1 59 rfl rfl, tm1 3 rfl rfl, by decide, by decide, by decide +kernel, by decide⟩, tm1 58 rfl rfl, rfl, rfl⟩
def QX10_init : QM := (RX10, yX10_init, cX10_init, 2, none, none)
theorem bX10_init : mbI QX10_init 1 := ⟨⟨tm2 95 rfl rfl, tm1 11 rfl rfl, by decide, by decide, by decide +kernel, by decide⟩, tm2 94 rfl rfl, rfl, rfl⟩
def QX11_init : QM := (RX11, yX11_init, cX11_init, 4, none, none)
theorem bX11_init : mbI QX11_init 0 := ⟨⟨tm1 26 rfl rfl, tm1 1 rfl rfl, by decide, by decide, by decide +kernel, by decide⟩, tm1 25 rfl rfl, rfl, rfl⟩
def QX12_init : QM := (RX12, yX12_init, cX12_init, 1, none, none)
theorem bX12_init : mbI QX12_init 0 := ⟨⟨tm5 232 rfl rfl, tm1 13 rfl rfl, by decide, by decide, by decide +kernel, by decide⟩, tm5 231 rfl rfl, rfl, rfl⟩
theorem ffX8_9 : FF RX8 9 8 0 := ⟨RX8, TX8, 5, cbX8, by decide, rfl, rfl, tm1 36 rfl rfl⟩
theorem ffX2_11 : FF RX2 11 2 0 := ⟨RX2, TX2, 12, cbX2, by decide, rfl, rfl, tm1 67 rfl rfl⟩
theorem ffX2_15 : FF RX2 15 2 1 := ⟨RX2, TX2, 12, cbX2, by decide, rfl, rfl, tm1 68 rfl rfl⟩
theorem ffX2_18 : FF RX2 18 2 2 := ⟨RX2, TX2, 12, cbX2, by decide, rfl, rfl, tm1 69 rfl rfl⟩
theorem ffX2_21 : FF RX2 21 2 3 := ⟨RX2, TX2, 12, cbX2, by decide, rfl, rfl, tm1 70 rfl rfl⟩
theorem ffX2_24 : FF RX2 24 2 4 := ⟨RX2, TX2, 12, cbX2, by decide, rfl, rfl, tm1 71 rfl rfl⟩
theorem ffX2_27 : FF RX2 27 2 5 := ⟨RX2, TX2, 12, cbX2, by decide, rfl, rfl, tm1 72 rfl rfl⟩
theorem ffX2_30 : FF RX2 30 2 6 := ⟨RX2, TX2, 12, cbX2, by decide, rfl, rfl, tm1 73 rfl rfl⟩
theorem ffX9_9 : FF RX9 9 9 0 := ⟨RX9, TX9, 6, cbX9, by decide, rfl, rfl, tm1 107 rfl rfl⟩
theorem ffX9_15 : FF RX9 15 9 1 := ⟨RX9, TX9, 6, cbX9, by decide, rfl, rfl, tm1 108 rfl rfl⟩
theorem ffX9_18 : FF RX9 18 9 2 := ⟨RX9, TX9, 6, cbX9, by decide, rfl, rfl, tm1 110 rfl rfl⟩
theorem ffX3_11 : FF RX3 11 3 0 := ⟨RX3, TX3, 2, cbX3, by decide, rfl, rfl, tm1 136 rfl rfl⟩
theorem ffX4_9 : FF RX4 9 4 0 := ⟨RX4, TX4, 2, cbX4, by decide, rfl, rfl, tm1 152 rfl rfl⟩
theorem ffX7_9 : FF RX7 9 7 0 := ⟨RX7, TX7, 5, cbX7, by decide, rfl, rfl, tm1 165 rfl rfl⟩
theorem ffX7_15 : FF RX7 15 7 1 := ⟨RX7, TX7, 5, cbX7, by decide, rfl, rfl, tm1 166 rfl rfl⟩
theorem ffX7_18 : FF RX7 18 7 2 := ⟨RX7, TX7, 5, cbX7, by decide, rfl, rfl, tm1 167 rfl rfl⟩
theorem ffX1_24 : FF RX1 24 1 0 := ⟨RX1, TX1, 14, cbX1, by decide, rfl, rfl, tm1 193 rfl rfl⟩
theorem ffX1_28 : FF RX1 28 1 1 := ⟨RX1, TX1, 14, cbX1, by decide, rfl, rfl, tm1 194 rfl rfl⟩
theorem ffX1_9 : FF RX1 9 1 2 := ⟨RX1, TX1, 14, cbX1, by decide, rfl, rfl, tm1 195 rfl rfl⟩
theorem ffX1_15 : FF RX1 15 1 3 := ⟨RX1, TX1, 14, cbX1, by decide, rfl, rfl, tm1 196 rfl rfl⟩
theorem ffX1_18 : FF RX1 18 1 4 := ⟨RX1, TX1, 14, cbX1, by decide, rfl, rfl, tm1 197 rfl rfl⟩
theorem ffX1_21 : FF RX1 21 1 5 := ⟨RX1, TX1, 14, cbX1, by decide, rfl, rfl, tm1 198 rfl rfl⟩
theorem ffX0_27 : FF RX0 27 0 0 := ⟨RX0, TX0, 14, cbX0, by decide, rfl, rfl, tm2 2 rfl rfl⟩
theorem ffX0_31 : FF RX0 31 0 1 := ⟨RX0, TX0, 14, cbX0, by decide, rfl, rfl, tm2 3 rfl rfl⟩
theorem ffX0_9 : FF RX0 9 0 2 := ⟨RX0, TX0, 14, cbX0, by decide, rfl, rfl, tm2 4 rfl rfl⟩
theorem ffX0_15 : FF RX0 15 0 3 := ⟨RX0, TX0, 14, cbX0, by decide, rfl, rfl, tm2 5 rfl rfl⟩
theorem ffX0_18 : FF RX0 18 0 4 := ⟨RX0, TX0, 14, cbX0, by decide, rfl, rfl, tm2 6 rfl rfl⟩
theorem ffX0_21 : FF RX0 21 0 5 := ⟨RX0, TX0, 14, cbX0, by decide, rfl, rfl, tm2 7 rfl rfl⟩
theorem ffX0_24 : FF RX0 24 0 6 := ⟨RX0, TX0, 14, cbX0, by decide, rfl, rfl, tm2 8 rfl rfl⟩
theorem ffX6_9 : FF RX6 9 6 0 := ⟨RX6, TX6, 13, cbX6, by decide, rfl, rfl, tm2 51 rfl rfl⟩
theorem ffX6_15 : FF RX6 15 6 1 := ⟨RX6, TX6, 13, cbX6, by decide, rfl, rfl, tm2 52 rfl rfl⟩
theorem ffX10_21 : FF RX10 21 10 0 := ⟨RX10, TX10, 11, cbX10, by decide, rfl, rfl, tm2 97 rfl rfl⟩
theorem ffX10_11 : FF RX10 11 10 1 := ⟨RX10, TX10, 11, cbX10, by decide, rfl, rfl, tm2 98 rfl rfl⟩
theorem ffX10_15 : FF RX10 15 10 2 := ⟨RX10, TX10, 11, cbX10, by decide, rfl, rfl, tm2 99 rfl rfl⟩
theorem ffX10_18 : FF RX10 18 10 3 := ⟨RX10, TX10, 11, cbX10, by decide, rfl, rfl, tm2 100 rfl rfl⟩
theorem ffX5_18 : FF RX5 18 5 0 := ⟨RX5, TX5, 9, cbX5, by decide, rfl, rfl, tm2 137 rfl rfl⟩
theorem ffX5_22 : FF RX5 22 5 1 := ⟨RX5, TX5, 9, cbX5, by decide, rfl, rfl, tm2 138 rfl rfl⟩
theorem ffX5_9 : FF RX5 9 5 2 := ⟨RX5, TX5, 9, cbX5, by decide, rfl, rfl, tm2 139 rfl rfl⟩
theorem ffX5_15 : FF RX5 15 5 3 := ⟨RX5, TX5, 9, cbX5, by decide, rfl, rfl, tm2 140 rfl rfl⟩
theorem ffX11_18 : FF RX11 18 11 0 := ⟨RX11, TX11, 14, cbX11, by decide, rfl, rfl, tm2 165 rfl rfl⟩
theorem ffX11_27 : FF RX11 27 11 1 := ⟨RX11, TX11, 14, cbX11, by decide, rfl, rfl, tm2 166 rfl rfl⟩
theorem ffX11_31 : FF RX11 31 11 2 := ⟨RX11, TX11, 14, cbX11, by decide, rfl, rfl, tm2 167 rfl rfl⟩
theorem ffX11_38 : FF RX11 38 11 3 := ⟨RX11, TX11, 14, cbX11, by decide, rfl, rfl, tm2 168 rfl rfl⟩
theorem ffX11_42 : FF RX11 42 11 4 := ⟨RX11, TX11, 14, cbX11, by decide, rfl, rfl, tm2 169 rfl rfl⟩
theorem ffX11_45 : FF RX11 45 11 5 := ⟨RX11, TX11, 14, cbX11, by decide, rfl, rfl, tm2 170 rfl rfl⟩
theorem ffX11_54 : FF RX11 54 11 6 := ⟨RX11, TX11, 14, cbX11, by decide, rfl, rfl, tm2 171 rfl rfl⟩
theorem ffX11_61 : FF RX11 61 11 7 := ⟨RX11, TX11, 14, cbX11, by decide, rfl, rfl, tm2 172 rfl rfl⟩
theorem ffX11_68 : FF RX11 68 11 8 := ⟨RX11, TX11, 14, cbX11, by decide, rfl, rfl, tm2 173 rfl rfl⟩
theorem ffX11_77 : FF RX11 77 11 9 := ⟨RX11, TX11, 14, cbX11, by decide, rfl, rfl, tm2 174 rfl rfl⟩
theorem ffX11_84 : FF RX11 84 11 10 := ⟨RX11, TX11, 14, cbX11, by decide, rfl, rfl, tm2 175 rfl rfl⟩
theorem ffX12_7 : FF RX12 7 12 0 := ⟨RX12, TX12, 70, cbX12, by decide, rfl, rfl, tm5 234 rfl rfl⟩
theorem ffX12_17 : FF RX12 17 12 11 := ⟨RX12, TX12, 70, cbX12, by decide, rfl, rfl, tm6 5 rfl rfl⟩
theorem ffX12_21 : FF RX12 21 12 12 := ⟨RX12, TX12, 70, cbX12, by decide, rfl, rfl, tm6 6 rfl rfl⟩
theorem ffX12_24 : FF RX12 24 12 13 := ⟨RX12, TX12, 70, cbX12, by decide, rfl, rfl, tm6 7 rfl rfl⟩
theorem ffX12_27 : FF RX12 27 12 14 := ⟨RX12, TX12, 70, cbX12, by decide, rfl, rfl, tm6 8 rfl rfl⟩
theorem ffX12_30 : FF RX12 30 12 15 := ⟨RX12, TX12, 70, cbX12, by decide, rfl, rfl, tm6 9 rfl rfl⟩
theorem ffX12_34 : FF RX12 34 12 17 := ⟨RX12, TX12, 70, cbX12, by decide, rfl, rfl, tm6 11 rfl rfl⟩
theorem ffX12_37 : FF RX12 37 12 18 := ⟨RX12, TX12, 70, cbX12, by decide, rfl, rfl, tm6 12 rfl rfl⟩
theorem ffX12_40 : FF RX12 40 12 19 := ⟨RX12, TX12, 70, cbX12, by decide, rfl, rfl, tm6 13 rfl rfl⟩
theorem ffX12_43 : FF RX12 43 12 20 := ⟨RX12, TX12, 70, cbX12, by decide, rfl, rfl, tm6 14 rfl rfl⟩
theorem ffX12_46 : FF RX12 46 12 21 := ⟨RX12, TX12, 70, cbX12, by decide, rfl, rfl, tm6 15 rfl rfl⟩
theorem ffX12_49 : FF RX12 49 12 22 := ⟨RX12, TX12, 70, cbX12, by decide, rfl, rfl, tm6 16 rfl rfl⟩
theorem ffX12_52 : FF RX12 52 12 23 := ⟨RX12, TX12, 70, cbX12, by decide, rfl, rfl, tm6 17 rfl rfl⟩
theorem ffX12_55 : FF RX12 55 12 24 := ⟨RX12, TX12, 70, cbX12, by decide, rfl, rfl, tm6 18 rfl rfl⟩
theorem ffX12_58 : FF RX12 58 12 25 := ⟨RX12, TX12, 70, cbX12, by decide, rfl, rfl, tm6 19 rfl rfl⟩
theorem ffX12_61 : FF RX12 61 12 26 := ⟨RX12, TX12, 70, cbX12, by decide, rfl, rfl, tm6 20 rfl rfl⟩
theorem ffX12_64 : FF RX12 64 12 27 := ⟨RX12, TX12, 70, cbX12, by decide, rfl, rfl, tm6 21 rfl rfl⟩
theorem ffX12_67 : FF RX12 67 12 28 := ⟨RX12, TX12, 70, cbX12, by decide, rfl, rfl, tm6 22 rfl rfl⟩
theorem ffX12_70 : FF RX12 70 12 29 := ⟨RX12, TX12, 70, cbX12, by decide, rfl, rfl, tm6 23 rfl rfl⟩
theorem ffX12_73 : FF RX12 73 12 32 := ⟨RX12, TX12, 70, cbX12, by decide, rfl, rfl, tm6 26 rfl rfl⟩
theorem ffX12_76 : FF RX12 76 12 40 := ⟨RX12, TX12, 70, cbX12, by decide, rfl, rfl, tm6 34 rfl rfl⟩
theorem ffX12_79 : FF RX12 79 12 41 := ⟨RX12, TX12, 70, cbX12, by decide, rfl, rfl, tm6 35 rfl rfl⟩
theorem ffX12_82 : FF RX12 82 12 42 := ⟨RX12, TX12, 70, cbX12, by decide, rfl, rfl, tm6 36 rfl rfl⟩
theorem ffX12_85 : FF RX12 85 12 43 := ⟨RX12, TX12, 70, cbX12, by decide, rfl, rfl, tm6 37 rfl rfl⟩
theorem ffX12_88 : FF RX12 88 12 44 := ⟨RX12, TX12, 70, cbX12, by decide, rfl, rfl, tm6 38 rfl rfl⟩
theorem ffX12_91 : FF RX12 91 12 45 := ⟨RX12, TX12, 70, cbX12, by decide, rfl, rfl, tm6 39 rfl rfl⟩
theorem ffX12_94 : FF RX12 94 12 46 := ⟨RX12, TX12, 70, cbX12, by decide, rfl, rfl, tm6 40 rfl rfl⟩
theorem ffX12_97 : FF RX12 97 12 47 := ⟨RX12, TX12, 70, cbX12, by decide, rfl, rfl, tm6 41 rfl rfl⟩
theorem ffX12_100 : FF RX12 100 12 48 := ⟨RX12, TX12, 70, cbX12, by decide, rfl, rfl, tm6 42 rfl rfl⟩
theorem ffX12_103 : FF RX12 103 12 49 := ⟨RX12, TX12, 70, cbX12, by decide, rfl, rfl, tm6 43 rfl rfl⟩
theorem ffX12_106 : FF RX12 106 12 50 := ⟨RX12, TX12, 70, cbX12, by decide, rfl, rfl, tm6 44 rfl rfl⟩
theorem ffX12_109 : FF RX12 109 12 51 := ⟨RX12, TX12, 70, cbX12, by decide, rfl, rfl, tm6 45 rfl rfl⟩
theorem ffX12_112 : FF RX12 112 12 52 := ⟨RX12, TX12, 70, cbX12, by decide, rfl, rfl, tm6 46 rfl rfl⟩
theorem ffX12_115 : FF RX12 115 12 53 := ⟨RX12, TX12, 70, cbX12, by decide, rfl, rfl, tm6 47 rfl rfl⟩
theorem ffX12_118 : FF RX12 118 12 54 := ⟨RX12, TX12, 70, cbX12, by decide, rfl, rfl, tm6 48 rfl rfl⟩
theorem ffX12_121 : FF RX12 121 12 55 := ⟨RX12, TX12, 70, cbX12, by decide, rfl, rfl, tm6 49 rfl rfl⟩
theorem ffX12_124 : FF RX12 124 12 56 := ⟨RX12, TX12, 70, cbX12, by decide, rfl, rfl, tm6 50 rfl rfl⟩
theorem ffX12_127 : FF RX12 127 12 57 := ⟨RX12, TX12, 70, cbX12, by decide, rfl, rfl, tm6 51 rfl rfl⟩
theorem ffX12_130 : FF RX12 130 12 58 := ⟨RX12, TX12, 70, cbX12, by decide, rfl, rfl, tm6 52 rfl rfl⟩
theorem ffX12_133 : FF RX12 133 12 59 := ⟨RX12, TX12, 70, cbX12, by decide, rfl, rfl, tm6 53 rfl rfl⟩
theorem ffX12_136 : FF RX12 136 12 60 := ⟨RX12, TX12, 70, cbX12, by decide, rfl, rfl, tm6 54 rfl rfl⟩
theorem ffX12_139 : FF RX12 139 12 61 := ⟨RX12, TX12, 70, cbX12, by decide, rfl, rfl, tm6 55 rfl rfl⟩
theorem ffX12_142 : FF RX12 142 12 62 := ⟨RX12, TX12, 70, cbX12, by decide, rfl, rfl, tm6 56 rfl rfl⟩
theorem ffX12_145 : FF RX12 145 12 66 := ⟨RX12, TX12, 70, cbX12, by decide, rfl, rfl, tm6 60 rfl rfl⟩
theorem ffX12_148 : FF RX12 148 12 67 := ⟨RX12, TX12, 70, cbX12, by decide, rfl, rfl, tm6 61 rfl rfl⟩
theorem ffX12_151 : FF RX12 151 12 68 := ⟨RX12, TX12, 70, cbX12, by decide, rfl, rfl, tm6 62 rfl rfl⟩
theorem ffX12_154 : FF RX12 154 12 69 := ⟨RX12, TX12, 70, cbX12, by decide, rfl, rfl, tm6 63 rfl rfl⟩
theorem nv_boolean_7 : ¬ (7 : Int32) < 0 ∧ (7 : Int32).toNatClampNeg = 7 ∧ 7 * componentBytes .boolean ≤ 536870912 := ⟨by decide, by decide +kernel, by decide +kernel⟩
theorem nv_boolean_240 : ¬ (240 : Int32) < 0 ∧ (240 : Int32).toNatClampNeg = 240 ∧ 240 * componentBytes .boolean ≤ 536870912 := ⟨by decide, by decide +kernel, by decide +kernel⟩
theorem nv_boolean_625 : ¬ (625 : Int32) < 0 ∧ (625 : Int32).toNatClampNeg = 625 ∧ 625 * componentBytes .boolean ≤ 536870912 := ⟨by decide, by decide +kernel, by decide +kernel⟩
theorem nv_boolean_4375 : ¬ (4375 : Int32) < 0 ∧ (4375 : Int32).toNatClampNeg = 4375 ∧ 4375 * componentBytes .boolean ≤ 536870912 := ⟨by decide, by decide +kernel, by decide +kernel⟩
theorem nv_boolean_8125 : ¬ (8125 : Int32) < 0 ∧ (8125 : Int32).toNatClampNeg = 8125 ∧ 8125 * componentBytes .boolean ≤ 536870912 := ⟨by decide, by decide +kernel, by decide +kernel⟩
theorem nv_byte_220 : ¬ (220 : Int32) < 0 ∧ (220 : Int32).toNatClampNeg = 220 ∧ 220 * componentBytes .byte ≤ 536870912 := ⟨by decide, by decide +kernel, by decide +kernel⟩
theorem nv_int_2 : ¬ (2 : Int32) < 0 ∧ (2 : Int32).toNatClampNeg = 2 ∧ 2 * componentBytes .int ≤ 536870912 := ⟨by decide, by decide +kernel, by decide +kernel⟩
theorem nv_int_4 : ¬ (4 : Int32) < 0 ∧ (4 : Int32).toNatClampNeg = 4 ∧ 4 * componentBytes .int ≤ 536870912 := ⟨by decide, by decide +kernel, by decide +kernel⟩
theorem nv_int_5 : ¬ (5 : Int32) < 0 ∧ (5 : Int32).toNatClampNeg = 5 ∧ 5 * componentBytes .int ≤ 536870912 := ⟨by decide, by decide +kernel, by decide +kernel⟩
theorem nv_int_6 : ¬ (6 : Int32) < 0 ∧ (6 : Int32).toNatClampNeg = 6 ∧ 6 * componentBytes .int ≤ 536870912 := ⟨by decide, by decide +kernel, by decide +kernel⟩
theorem nv_int_7 : ¬ (7 : Int32) < 0 ∧ (7 : Int32).toNatClampNeg = 7 ∧ 7 * componentBytes .int ≤ 536870912 := ⟨by decide, by decide +kernel, by decide +kernel⟩
theorem nv_int_8 : ¬ (8 : Int32) < 0 ∧ (8 : Int32).toNatClampNeg = 8 ∧ 8 * componentBytes .int ≤ 536870912 := ⟨by decide, by decide +kernel, by decide +kernel⟩
theorem nv_int_9 : ¬ (9 : Int32) < 0 ∧ (9 : Int32).toNatClampNeg = 9 ∧ 9 * componentBytes .int ≤ 536870912 := ⟨by decide, by decide +kernel, by decide +kernel⟩
theorem nv_int_12 : ¬ (12 : Int32) < 0 ∧ (12 : Int32).toNatClampNeg = 12 ∧ 12 * componentBytes .int ≤ 536870912 := ⟨by decide, by decide +kernel, by decide +kernel⟩
theorem nv_int_13 : ¬ (13 : Int32) < 0 ∧ (13 : Int32).toNatClampNeg = 13 ∧ 13 * componentBytes .int ≤ 536870912 := ⟨by decide, by decide +kernel, by decide +kernel⟩
theorem nv_int_14 : ¬ (14 : Int32) < 0 ∧ (14 : Int32).toNatClampNeg = 14 ∧ 14 * componentBytes .int ≤ 536870912 := ⟨by decide, by decide +kernel, by decide +kernel⟩
theorem nv_int_28 : ¬ (28 : Int32) < 0 ∧ (28 : Int32).toNatClampNeg = 28 ∧ 28 * componentBytes .int ≤ 536870912 := ⟨by decide, by decide +kernel, by decide +kernel⟩
theorem nv_int_50 : ¬ (50 : Int32) < 0 ∧ (50 : Int32).toNatClampNeg = 50 ∧ 50 * componentBytes .int ≤ 536870912 := ⟨by decide, by decide +kernel, by decide +kernel⟩
theorem nv_int_150 : ¬ (150 : Int32) < 0 ∧ (150 : Int32).toNatClampNeg = 150 ∧ 150 * componentBytes .int ≤ 536870912 := ⟨by decide, by decide +kernel, by decide +kernel⟩
theorem nv_int_175 : ¬ (175 : Int32) < 0 ∧ (175 : Int32).toNatClampNeg = 175 ∧ 175 * componentBytes .int ≤ 536870912 := ⟨by decide, by decide +kernel, by decide +kernel⟩
theorem nv_int_200 : ¬ (200 : Int32) < 0 ∧ (200 : Int32).toNatClampNeg = 200 ∧ 200 * componentBytes .int ≤ 536870912 := ⟨by decide, by decide +kernel, by decide +kernel⟩
theorem nv_int_220 : ¬ (220 : Int32) < 0 ∧ (220 : Int32).toNatClampNeg = 220 ∧ 220 * componentBytes .int ≤ 536870912 := ⟨by decide, by decide +kernel, by decide +kernel⟩
theorem nv_int_240 : ¬ (240 : Int32) < 0 ∧ (240 : Int32).toNatClampNeg = 240 ∧ 240 * componentBytes .int ≤ 536870912 := ⟨by decide, by decide +kernel, by decide +kernel⟩
theorem nv_int_256 : ¬ (256 : Int32) < 0 ∧ (256 : Int32).toNatClampNeg = 256 ∧ 256 * componentBytes .int ≤ 536870912 := ⟨by decide, by decide +kernel, by decide +kernel⟩
theorem nv_int_400 : ¬ (400 : Int32) < 0 ∧ (400 : Int32).toNatClampNeg = 400 ∧ 400 * componentBytes .int ≤ 536870912 := ⟨by decide, by decide +kernel, by decide +kernel⟩
theorem nv_int_1000 : ¬ (1000 : Int32) < 0 ∧ (1000 : Int32).toNatClampNeg = 1000 ∧ 1000 * componentBytes .int ≤ 536870912 := ⟨by decide, by decide +kernel, by decide +kernel⟩
theorem nv_int_1250 : ¬ (1250 : Int32) < 0 ∧ (1250 : Int32).toNatClampNeg = 1250 ∧ 1250 * componentBytes .int ≤ 536870912 := ⟨by decide, by decide +kernel, by decide +kernel⟩
theorem nv_int_4375 : ¬ (4375 : Int32) < 0 ∧ (4375 : Int32).toNatClampNeg = 4375 ∧ 4375 * componentBytes .int ≤ 536870912 := ⟨by decide, by decide +kernel, by decide +kernel⟩
theorem nv_int_7500 : ¬ (7500 : Int32) < 0 ∧ (7500 : Int32).toNatClampNeg = 7500 ∧ 7500 * componentBytes .int ≤ 536870912 := ⟨by decide, by decide +kernel, by decide +kernel⟩
theorem nv_int_8125 : ¬ (8125 : Int32) < 0 ∧ (8125 : Int32).toNatClampNeg = 8125 ∧ 8125 * componentBytes .int ≤ 536870912 := ⟨by decide, by decide +kernel, by decide +kernel⟩
theorem nv_int_12500 : ¬ (12500 : Int32) < 0 ∧ (12500 : Int32).toNatClampNeg = 12500 ∧ 12500 * componentBytes .int ≤ 536870912 := ⟨by decide, by decide +kernel, by decide +kernel⟩
theorem nv_long_12500 : ¬ (12500 : Int32) < 0 ∧ (12500 : Int32).toNatClampNeg = 12500 ∧ 12500 * componentBytes .long ≤ 536870912 := ⟨by decide, by decide +kernel, by decide +kernel⟩
def QL_law (L : Nat) (xs : Nat → Int32) : QM := (RL, yL_law, cL_law, 4, some .boolean, some (L, xs))
theorem y_end {Y : QM} {d pc : Nat} {lv : List (Nat × Value)} {n : Nat} {rho : Nat → Nat → Nat} {h : AHp} {cE sE : Nat} : WB Y d pc lv [] n rho h cE sE pc [] n rho h cE sE := by
  intro p l e R s m args below meth c D ad ca A Q H locs ls C hl hX
  exact hX H locs ls ad ca agr.rf C ⟨hl.1, hl.2.1, fun q hq => by cases hq⟩
