theorem qc116 : Cond.methodLink RX8 1 objectInit ∈ GW := inGW (List.mem_of_getElem? (i := 116) (by decide +kernel)) (by decide +kernel)
theorem qc101 : Cond.instanceMethod objectInit ∈ GW := inGW (List.mem_of_getElem? (i := 101) (by decide +kernel)) (by decide +kernel)
set_option maxRecDepth 30000 in
theorem qc102 : Cond.code objectInit ⟨#[0xb1]⟩ 1 none ∈ GW := inGW (List.mem_of_getElem? (i := 102) rfl) (by decide +kernel)
theorem qc149 : Cond.arrayClass .int ∈ GW := inGW (List.mem_of_getElem? (i := 149) (by decide +kernel)) (by decide +kernel)
theorem qc154 : Cond.methodLink RX3 3 objectInit ∈ GW := inGW (List.mem_of_getElem? (i := 154) (by decide +kernel)) (by decide +kernel)
theorem qc155 : Cond.classLink RX3 9 RX8 ∈ GW := inGW (List.mem_of_getElem? (i := 155) (by decide +kernel)) (by decide +kernel)
theorem qc112 : Cond.instantiable RX8 3 ∈ GW := inGW (List.mem_of_getElem? (i := 112) (by decide +kernel)) (by decide +kernel)
theorem qc82 : Cond.initialized RX8 ∈ GW := inGW (List.mem_of_getElem? (i := 82) (by decide +kernel)) (by decide +kernel)
theorem qc156 : Cond.methodLink RX3 11 yX8_init ∈ GW := inGW (List.mem_of_getElem? (i := 156) (by decide +kernel)) (by decide +kernel)
theorem qc114 : Cond.instanceMethod yX8_init ∈ GW := inGW (List.mem_of_getElem? (i := 114) (by decide +kernel)) (by decide +kernel)
set_option maxRecDepth 30000 in
theorem qc115 : Cond.code yX8_init cX8_init 3 none ∈ GW := inGW (List.mem_of_getElem? (i := 115) rfl) (by decide +kernel)
theorem qc108 : Cond.methodLink RX7 3 objectInit ∈ GW := inGW (List.mem_of_getElem? (i := 108) (by decide +kernel)) (by decide +kernel)
theorem qc109 : Cond.classLink RX7 9 RX3 ∈ GW := inGW (List.mem_of_getElem? (i := 109) (by decide +kernel)) (by decide +kernel)
theorem qc111 : Cond.classLink RX7 17 RX8 ∈ GW := inGW (List.mem_of_getElem? (i := 111) (by decide +kernel)) (by decide +kernel)
theorem qc113 : Cond.methodLink RX7 19 yX8_init ∈ GW := inGW (List.mem_of_getElem? (i := 113) (by decide +kernel)) (by decide +kernel)
theorem qc150 : Cond.instantiable RX3 2 ∈ GW := inGW (List.mem_of_getElem? (i := 150) (by decide +kernel)) (by decide +kernel)
theorem qc84 : Cond.initialized RX3 ∈ GW := inGW (List.mem_of_getElem? (i := 84) (by decide +kernel)) (by decide +kernel)
theorem qc152 : Cond.instanceMethod yX3_init ∈ GW := inGW (List.mem_of_getElem? (i := 152) (by decide +kernel)) (by decide +kernel)
set_option maxRecDepth 30000 in
theorem qc153 : Cond.code yX3_init cX3_init 1 none ∈ GW := inGW (List.mem_of_getElem? (i := 153) rfl) (by decide +kernel)
theorem qc202 : Cond.methodLink RX1 3 objectInit ∈ GW := inGW (List.mem_of_getElem? (i := 202) (by decide +kernel)) (by decide +kernel)
theorem qc203 : Cond.classLink RX1 9 RX7 ∈ GW := inGW (List.mem_of_getElem? (i := 203) (by decide +kernel)) (by decide +kernel)
theorem qc104 : Cond.instantiable RX7 3 ∈ GW := inGW (List.mem_of_getElem? (i := 104) (by decide +kernel)) (by decide +kernel)
theorem qc81 : Cond.initialized RX7 ∈ GW := inGW (List.mem_of_getElem? (i := 81) (by decide +kernel)) (by decide +kernel)
theorem qc205 : Cond.methodLink RX1 17 yX7_init ∈ GW := inGW (List.mem_of_getElem? (i := 205) (by decide +kernel)) (by decide +kernel)
theorem qc106 : Cond.instanceMethod yX7_init ∈ GW := inGW (List.mem_of_getElem? (i := 106) (by decide +kernel)) (by decide +kernel)
set_option maxRecDepth 30000 in
theorem qc107 : Cond.code yX7_init cX7_init 2 none ∈ GW := inGW (List.mem_of_getElem? (i := 107) rfl) (by decide +kernel)
theorem qc219 : Cond.methodLink RX2 3 objectInit ∈ GW := inGW (List.mem_of_getElem? (i := 219) (by decide +kernel)) (by decide +kernel)
theorem qc243 : Cond.methodLink RX5 3 objectInit ∈ GW := inGW (List.mem_of_getElem? (i := 243) (by decide +kernel)) (by decide +kernel)
theorem qc258 : Cond.methodLink RX0 3 objectInit ∈ GW := inGW (List.mem_of_getElem? (i := 258) (by decide +kernel)) (by decide +kernel)
theorem qc304 : Cond.arrayClass .long ∈ GW := inGW (List.mem_of_getElem? (i := 304) (by decide +kernel)) (by decide +kernel)
theorem qc316 : Cond.methodLink RX6 3 objectInit ∈ GW := inGW (List.mem_of_getElem? (i := 316) (by decide +kernel)) (by decide +kernel)
theorem qc310 : Cond.methodLink RX4 3 objectInit ∈ GW := inGW (List.mem_of_getElem? (i := 310) (by decide +kernel)) (by decide +kernel)
theorem qc311 : Cond.classLink RX4 9 RX6 ∈ GW := inGW (List.mem_of_getElem? (i := 311) (by decide +kernel)) (by decide +kernel)
theorem qc312 : Cond.instantiable RX6 1 ∈ GW := inGW (List.mem_of_getElem? (i := 312) (by decide +kernel)) (by decide +kernel)
theorem qc90 : Cond.initialized RX6 ∈ GW := inGW (List.mem_of_getElem? (i := 90) (by decide +kernel)) (by decide +kernel)
theorem qc314 : Cond.instanceMethod yX6_init ∈ GW := inGW (List.mem_of_getElem? (i := 314) (by decide +kernel)) (by decide +kernel)
set_option maxRecDepth 30000 in
theorem qc315 : Cond.code yX6_init cX6_init 1 none ∈ GW := inGW (List.mem_of_getElem? (i := 315) rfl) (by decide +kernel)
theorem qc343 : Cond.methodLink RX9 3 objectInit ∈ GW := inGW (List.mem_of_getElem? (i := 343) (by decide +kernel)) (by decide +kernel)
theorem qc344 : Cond.classLink RX9 9 RX8 ∈ GW := inGW (List.mem_of_getElem? (i := 344) (by decide +kernel)) (by decide +kernel)
theorem qc345 : Cond.methodLink RX9 11 yX8_init ∈ GW := inGW (List.mem_of_getElem? (i := 345) (by decide +kernel)) (by decide +kernel)
theorem qc100 : Cond.methodLink RX10 1 objectInit ∈ GW := inGW (List.mem_of_getElem? (i := 100) (by decide +kernel)) (by decide +kernel)
theorem qc103 : Cond.classLink RX10 7 RX7 ∈ GW := inGW (List.mem_of_getElem? (i := 103) (by decide +kernel)) (by decide +kernel)
theorem qc105 : Cond.methodLink RX10 9 yX7_init ∈ GW := inGW (List.mem_of_getElem? (i := 105) (by decide +kernel)) (by decide +kernel)
theorem qc197 : Cond.classLink RX10 16 RX1 ∈ GW := inGW (List.mem_of_getElem? (i := 197) (by decide +kernel)) (by decide +kernel)
theorem qc198 : Cond.instantiable RX1 2 ∈ GW := inGW (List.mem_of_getElem? (i := 198) (by decide +kernel)) (by decide +kernel)
theorem qc85 : Cond.initialized RX1 ∈ GW := inGW (List.mem_of_getElem? (i := 85) (by decide +kernel)) (by decide +kernel)
theorem qc199 : Cond.methodLink RX10 18 yX1_init ∈ GW := inGW (List.mem_of_getElem? (i := 199) (by decide +kernel)) (by decide +kernel)
theorem qc200 : Cond.instanceMethod yX1_init ∈ GW := inGW (List.mem_of_getElem? (i := 200) (by decide +kernel)) (by decide +kernel)
set_option maxRecDepth 30000 in
theorem qc201 : Cond.code yX1_init cX1_init 2 none ∈ GW := inGW (List.mem_of_getElem? (i := 201) rfl) (by decide +kernel)
theorem qc214 : Cond.classLink RX10 23 RX2 ∈ GW := inGW (List.mem_of_getElem? (i := 214) (by decide +kernel)) (by decide +kernel)
theorem qc215 : Cond.instantiable RX2 5 ∈ GW := inGW (List.mem_of_getElem? (i := 215) (by decide +kernel)) (by decide +kernel)
theorem qc86 : Cond.initialized RX2 ∈ GW := inGW (List.mem_of_getElem? (i := 86) (by decide +kernel)) (by decide +kernel)
theorem qc217 : Cond.instanceMethod yX2_init ∈ GW := inGW (List.mem_of_getElem? (i := 217) (by decide +kernel)) (by decide +kernel)
set_option maxRecDepth 30000 in
theorem qc218 : Cond.code yX2_init cX2_init 1 none ∈ GW := inGW (List.mem_of_getElem? (i := 218) rfl) (by decide +kernel)
theorem qc238 : Cond.classLink RX10 30 RX5 ∈ GW := inGW (List.mem_of_getElem? (i := 238) (by decide +kernel)) (by decide +kernel)
theorem qc239 : Cond.instantiable RX5 2 ∈ GW := inGW (List.mem_of_getElem? (i := 239) (by decide +kernel)) (by decide +kernel)
theorem qc87 : Cond.initialized RX5 ∈ GW := inGW (List.mem_of_getElem? (i := 87) (by decide +kernel)) (by decide +kernel)
theorem qc241 : Cond.instanceMethod yX5_init ∈ GW := inGW (List.mem_of_getElem? (i := 241) (by decide +kernel)) (by decide +kernel)
set_option maxRecDepth 30000 in
theorem qc242 : Cond.code yX5_init cX5_init 1 none ∈ GW := inGW (List.mem_of_getElem? (i := 242) rfl) (by decide +kernel)
theorem qc253 : Cond.classLink RX10 37 RX0 ∈ GW := inGW (List.mem_of_getElem? (i := 253) (by decide +kernel)) (by decide +kernel)
theorem qc254 : Cond.instantiable RX0 11 ∈ GW := inGW (List.mem_of_getElem? (i := 254) (by decide +kernel)) (by decide +kernel)
theorem qc88 : Cond.initialized RX0 ∈ GW := inGW (List.mem_of_getElem? (i := 88) (by decide +kernel)) (by decide +kernel)
theorem qc256 : Cond.instanceMethod yX0_init ∈ GW := inGW (List.mem_of_getElem? (i := 256) (by decide +kernel)) (by decide +kernel)
set_option maxRecDepth 30000 in
theorem qc257 : Cond.code yX0_init cX0_init 1 none ∈ GW := inGW (List.mem_of_getElem? (i := 257) rfl) (by decide +kernel)
theorem qc305 : Cond.classLink RX10 44 RX4 ∈ GW := inGW (List.mem_of_getElem? (i := 305) (by decide +kernel)) (by decide +kernel)
theorem qc306 : Cond.instantiable RX4 5 ∈ GW := inGW (List.mem_of_getElem? (i := 306) (by decide +kernel)) (by decide +kernel)
theorem qc89 : Cond.initialized RX4 ∈ GW := inGW (List.mem_of_getElem? (i := 89) (by decide +kernel)) (by decide +kernel)
theorem qc308 : Cond.instanceMethod yX4_init ∈ GW := inGW (List.mem_of_getElem? (i := 308) (by decide +kernel)) (by decide +kernel)
set_option maxRecDepth 30000 in
theorem qc309 : Cond.code yX4_init cX4_init 1 none ∈ GW := inGW (List.mem_of_getElem? (i := 309) rfl) (by decide +kernel)
theorem qc338 : Cond.classLink RX10 51 RX9 ∈ GW := inGW (List.mem_of_getElem? (i := 338) (by decide +kernel)) (by decide +kernel)
theorem qc339 : Cond.instantiable RX9 4 ∈ GW := inGW (List.mem_of_getElem? (i := 339) (by decide +kernel)) (by decide +kernel)
theorem qc91 : Cond.initialized RX9 ∈ GW := inGW (List.mem_of_getElem? (i := 91) (by decide +kernel)) (by decide +kernel)
theorem qc341 : Cond.instanceMethod yX9_init ∈ GW := inGW (List.mem_of_getElem? (i := 341) (by decide +kernel)) (by decide +kernel)
set_option maxRecDepth 30000 in
theorem qc342 : Cond.code yX9_init cX9_init 1 none ∈ GW := inGW (List.mem_of_getElem? (i := 342) rfl) (by decide +kernel)
theorem qc361 : Cond.classLink RX10 58 RX8 ∈ GW := inGW (List.mem_of_getElem? (i := 361) (by decide +kernel)) (by decide +kernel)
theorem qc362 : Cond.methodLink RX10 60 yX8_init ∈ GW := inGW (List.mem_of_getElem? (i := 362) (by decide +kernel)) (by decide +kernel)
theorem qc815 : Cond.methodLink RX11 1 objectInit ∈ GW := inGW (List.mem_of_getElem? (i := 815) (by decide +kernel)) (by decide +kernel)
theorem qc913 : Cond.arrayClass .boolean ∈ GW := inGW (List.mem_of_getElem? (i := 913) (by decide +kernel)) (by decide +kernel)
theorem qc117 : Cond.methodLink RX8 7 Lib.Math.max.name ∈ GW := inGW (List.mem_of_getElem? (i := 117) (by decide +kernel)) (by decide +kernel)
theorem qc118 : Cond.static Lib.Math.max.name ∈ GW := inGW (List.mem_of_getElem? (i := 118) (by decide +kernel)) (by decide +kernel)
theorem qc83 : Cond.initialized "java/lang/Math" ∈ GW := inGW (List.mem_of_getElem? (i := 83) (by decide +kernel)) (by decide +kernel)
set_option maxRecDepth 30000 in
theorem qc119 : Cond.code Lib.Math.max.name Lib.Math.max.code 2 (some .int) ∈ GW := inGW (List.mem_of_getElem? (i := 119) rfl) (by decide +kernel)
theorem qc363 : Cond.methodLink RX10 78 yX8_startAs ∈ GW := inGW (List.mem_of_getElem? (i := 363) (by decide +kernel)) (by decide +kernel)
theorem qc364 : Cond.instanceMethod yX8_startAs ∈ GW := inGW (List.mem_of_getElem? (i := 364) (by decide +kernel)) (by decide +kernel)
theorem qc365 : Cond.selects RX8 yX8_startAs yX8_startAs ∈ GW := inGW (List.mem_of_getElem? (i := 365) (by decide +kernel)) (by decide +kernel)
set_option maxRecDepth 30000 in
theorem qc366 : Cond.code yX8_startAs cX8_startAs 2 none ∈ GW := inGW (List.mem_of_getElem? (i := 366) rfl) (by decide +kernel)
theorem fkc0_0 : FI 0 0 1 RX0 TX0 11 := ⟨inGX0, rfl, rfl, Nat.le_of_ble_eq_true rfl⟩
theorem fkc0_1 : FI 0 1 1 RX0 TX0 11 := ⟨inGX0, rfl, rfl, Nat.le_of_ble_eq_true rfl⟩
theorem fkc0_2 : FI 0 2 1 RX0 TX0 11 := ⟨inGX0, rfl, rfl, Nat.le_of_ble_eq_true rfl⟩
theorem fkc0_3 : FI 0 3 2 RX0 TX0 11 := ⟨inGX0, rfl, rfl, Nat.le_of_ble_eq_true rfl⟩
theorem fkc0_4 : FI 0 4 2 RX0 TX0 11 := ⟨inGX0, rfl, rfl, Nat.le_of_ble_eq_true rfl⟩
theorem fkc0_5 : FI 0 5 2 RX0 TX0 11 := ⟨inGX0, rfl, rfl, Nat.le_of_ble_eq_true rfl⟩
theorem fkc0_6 : FI 0 6 1 RX0 TX0 11 := ⟨inGX0, rfl, rfl, Nat.le_of_ble_eq_true rfl⟩
theorem fkc1_0 : FI 1 0 5 RX1 TX1 2 := ⟨inGX1, rfl, rfl, Nat.le_of_ble_eq_true rfl⟩
theorem fkc2_0 : FI 2 0 1 RX2 TX2 5 := ⟨inGX2, rfl, rfl, Nat.le_of_ble_eq_true rfl⟩
theorem fkc2_1 : FI 2 1 1 RX2 TX2 5 := ⟨inGX2, rfl, rfl, Nat.le_of_ble_eq_true rfl⟩
theorem fkc3_0 : FI 3 0 14 RX3 TX3 2 := ⟨inGX3, rfl, rfl, Nat.le_of_ble_eq_true rfl⟩
theorem fkc3_1 : FI 3 1 14 RX3 TX3 2 := ⟨inGX3, rfl, rfl, Nat.le_of_ble_eq_true rfl⟩
theorem fkc4_0 : FI 4 0 12 RX4 TX4 5 := ⟨inGX4, rfl, rfl, Nat.le_of_ble_eq_true rfl⟩
theorem fkc4_1 : FI 4 1 12 RX4 TX4 5 := ⟨inGX4, rfl, rfl, Nat.le_of_ble_eq_true rfl⟩
theorem fkc4_2 : FI 4 2 1 RX4 TX4 5 := ⟨inGX4, rfl, rfl, Nat.le_of_ble_eq_true rfl⟩
theorem fkc4_3 : FI 4 3 2 RX4 TX4 5 := ⟨inGX4, rfl, rfl, Nat.le_of_ble_eq_true rfl⟩
theorem fkc5_0 : FI 5 0 1 RX5 TX5 2 := ⟨inGX5, rfl, rfl, Nat.le_of_ble_eq_true rfl⟩
theorem fkc6_0 : FI 6 0 1 RX6 TX6 1 := ⟨inGX6, rfl, rfl, Nat.le_of_ble_eq_true rfl⟩
theorem fkc7_0 : FI 7 0 4 RX7 TX7 3 := ⟨inGX7, rfl, rfl, Nat.le_of_ble_eq_true rfl⟩
theorem fkc7_1 : FI 7 1 14 RX7 TX7 3 := ⟨inGX7, rfl, rfl, Nat.le_of_ble_eq_true rfl⟩
theorem fkc8_0 : FI 8 0 1 RX8 TX8 3 := ⟨inGX8, rfl, rfl, Nat.le_of_ble_eq_true rfl⟩
theorem fkc8_1 : FI 8 1 1 RX8 TX8 3 := ⟨inGX8, rfl, rfl, Nat.le_of_ble_eq_true rfl⟩
theorem fkc9_0 : FI 9 0 14 RX9 TX9 4 := ⟨inGX9, rfl, rfl, Nat.le_of_ble_eq_true rfl⟩
theorem fkc9_1 : FI 9 1 1 RX9 TX9 4 := ⟨inGX9, rfl, rfl, Nat.le_of_ble_eq_true rfl⟩
theorem fkc10_0 : FI 10 0 13 RX10 TX10 15 := ⟨inGX10, rfl, rfl, Nat.le_of_ble_eq_true rfl⟩
theorem fkc10_1 : FI 10 1 7 RX10 TX10 15 := ⟨inGX10, rfl, rfl, Nat.le_of_ble_eq_true rfl⟩
theorem fkc10_2 : FI 10 2 8 RX10 TX10 15 := ⟨inGX10, rfl, rfl, Nat.le_of_ble_eq_true rfl⟩
theorem fkc10_3 : FI 10 3 11 RX10 TX10 15 := ⟨inGX10, rfl, rfl, Nat.le_of_ble_eq_true rfl⟩
theorem fkc10_4 : FI 10 4 6 RX10 TX10 15 := ⟨inGX10, rfl, rfl, Nat.le_of_ble_eq_true rfl⟩
theorem fkc10_5 : FI 10 5 10 RX10 TX10 15 := ⟨inGX10, rfl, rfl, Nat.le_of_ble_eq_true rfl⟩
theorem fkc10_6 : FI 10 6 15 RX10 TX10 15 := ⟨inGX10, rfl, rfl, Nat.le_of_ble_eq_true rfl⟩
theorem fkc10_7 : FI 10 7 14 RX10 TX10 15 := ⟨inGX10, rfl, rfl, Nat.le_of_ble_eq_true rfl⟩
theorem fkc10_8 : FI 10 8 1 RX10 TX10 15 := ⟨inGX10, rfl, rfl, Nat.le_of_ble_eq_true rfl⟩
theorem fkc10_11 : FI 10 11 100 RX10 TX10 15 := ⟨inGX10, rfl, rfl, Nat.le_of_ble_eq_true rfl⟩
theorem fkc11_0 : FI 11 0 1 RX11 TX11 32 := ⟨inGX11, rfl, rfl, Nat.le_of_ble_eq_true rfl⟩
theorem fkc11_1 : FI 11 1 1 RX11 TX11 32 := ⟨inGX11, rfl, rfl, Nat.le_of_ble_eq_true rfl⟩
theorem fkc11_2 : FI 11 2 1 RX11 TX11 32 := ⟨inGX11, rfl, rfl, Nat.le_of_ble_eq_true rfl⟩
theorem fkc11_4 : FI 11 4 1 RX11 TX11 32 := ⟨inGX11, rfl, rfl, Nat.le_of_ble_eq_true rfl⟩
theorem fkc11_5 : FI 11 5 1 RX11 TX11 32 := ⟨inGX11, rfl, rfl, Nat.le_of_ble_eq_true rfl⟩
theorem fkc11_8 : FI 11 8 1 RX11 TX11 32 := ⟨inGX11, rfl, rfl, Nat.le_of_ble_eq_true rfl⟩
theorem fkc11_10 : FI 11 10 1 RX11 TX11 32 := ⟨inGX11, rfl, rfl, Nat.le_of_ble_eq_true rfl⟩
theorem fkc11_12 : FI 11 12 1 RX11 TX11 32 := ⟨inGX11, rfl, rfl, Nat.le_of_ble_eq_true rfl⟩
theorem fkc11_13 : FI 11 13 2 RX11 TX11 32 := ⟨inGX11, rfl, rfl, Nat.le_of_ble_eq_true rfl⟩
theorem fkc11_14 : FI 11 14 2 RX11 TX11 32 := ⟨inGX11, rfl, rfl, Nat.le_of_ble_eq_true rfl⟩
theorem fkc11_15 : FI 11 15 2 RX11 TX11 32 := ⟨inGX11, rfl, rfl, Nat.le_of_ble_eq_true rfl⟩
theorem fkc11_16 : FI 11 16 1 RX11 TX11 32 := ⟨inGX11, rfl, rfl, Nat.le_of_ble_eq_true rfl⟩
theorem fkc11_17 : FI 11 17 1 RX11 TX11 32 := ⟨inGX11, rfl, rfl, Nat.le_of_ble_eq_true rfl⟩
theorem fkc11_19 : FI 11 19 3 RX11 TX11 32 := ⟨inGX11, rfl, rfl, Nat.le_of_ble_eq_true rfl⟩
theorem fkc11_20 : FI 11 20 3 RX11 TX11 32 := ⟨inGX11, rfl, rfl, Nat.le_of_ble_eq_true rfl⟩
theorem fkc11_21 : FI 11 21 1 RX11 TX11 32 := ⟨inGX11, rfl, rfl, Nat.le_of_ble_eq_true rfl⟩
theorem fkc11_23 : FI 11 23 1 RX11 TX11 32 := ⟨inGX11, rfl, rfl, Nat.le_of_ble_eq_true rfl⟩
theorem fkc11_25 : FI 11 25 1 RX11 TX11 32 := ⟨inGX11, rfl, rfl, Nat.le_of_ble_eq_true rfl⟩
theorem fkc11_26 : FI 11 26 1 RX11 TX11 32 := ⟨inGX11, rfl, rfl, Nat.le_of_ble_eq_true rfl⟩
theorem fkc11_27 : FI 11 27 1 RX11 TX11 32 := ⟨inGX11, rfl, rfl, Nat.le_of_ble_eq_true rfl⟩
theorem fwc10_11 : FWr 11 TX10 15 tyX10 .int := ⟨tyX10_ok, nmX10, rfl, tyX10_ok 11 (by decide)⟩
theorem lkcX0_9 : Cond.fieldLink RX0 9 (TX0 0).1 (TX0 0).2.1 (TX0 0).2.2.1 ∈ GW := inGW (List.mem_of_getElem? (i := 259) (by decide +kernel)) (by decide +kernel)
theorem lkcX0_15 : Cond.fieldLink RX0 15 (TX0 1).1 (TX0 1).2.1 (TX0 1).2.2.1 ∈ GW := inGW (List.mem_of_getElem? (i := 262) (by decide +kernel)) (by decide +kernel)
theorem lkcX0_18 : Cond.fieldLink RX0 18 (TX0 2).1 (TX0 2).2.1 (TX0 2).2.2.1 ∈ GW := inGW (List.mem_of_getElem? (i := 264) (by decide +kernel)) (by decide +kernel)
theorem lkcX0_21 : Cond.fieldLink RX0 21 (TX0 3).1 (TX0 3).2.1 (TX0 3).2.2.1 ∈ GW := inGW (List.mem_of_getElem? (i := 267) (by decide +kernel)) (by decide +kernel)
theorem lkcX0_25 : Cond.fieldLink RX0 25 (TX0 4).1 (TX0 4).2.1 (TX0 4).2.2.1 ∈ GW := inGW (List.mem_of_getElem? (i := 269) (by decide +kernel)) (by decide +kernel)
theorem lkcX0_28 : Cond.fieldLink RX0 28 (TX0 5).1 (TX0 5).2.1 (TX0 5).2.2.1 ∈ GW := inGW (List.mem_of_getElem? (i := 270) (by decide +kernel)) (by decide +kernel)
theorem lkcX0_31 : Cond.fieldLink RX0 31 (TX0 6).1 (TX0 6).2.1 (TX0 6).2.2.1 ∈ GW := inGW (List.mem_of_getElem? (i := 272) (by decide +kernel)) (by decide +kernel)
theorem lkcX1_11 : Cond.fieldLink RX1 11 (TX1 0).1 (TX1 0).2.1 (TX1 0).2.2.1 ∈ GW := inGW (List.mem_of_getElem? (i := 206) (by decide +kernel)) (by decide +kernel)
theorem lkcX10_10 : Cond.fieldLink RX10 10 (TX10 0).1 (TX10 0).2.1 (TX10 0).2.2.1 ∈ GW := inGW (List.mem_of_getElem? (i := 378) (by decide +kernel)) (by decide +kernel)
theorem lkcX10_19 : Cond.fieldLink RX10 19 (TX10 1).1 (TX10 1).2.1 (TX10 1).2.2.1 ∈ GW := inGW (List.mem_of_getElem? (i := 379) (by decide +kernel)) (by decide +kernel)
theorem lkcX10_26 : Cond.fieldLink RX10 26 (TX10 2).1 (TX10 2).2.1 (TX10 2).2.2.1 ∈ GW := inGW (List.mem_of_getElem? (i := 380) (by decide +kernel)) (by decide +kernel)
theorem lkcX10_33 : Cond.fieldLink RX10 33 (TX10 3).1 (TX10 3).2.1 (TX10 3).2.2.1 ∈ GW := inGW (List.mem_of_getElem? (i := 381) (by decide +kernel)) (by decide +kernel)
theorem lkcX10_40 : Cond.fieldLink RX10 40 (TX10 4).1 (TX10 4).2.1 (TX10 4).2.2.1 ∈ GW := inGW (List.mem_of_getElem? (i := 382) (by decide +kernel)) (by decide +kernel)
theorem lkcX10_47 : Cond.fieldLink RX10 47 (TX10 5).1 (TX10 5).2.1 (TX10 5).2.2.1 ∈ GW := inGW (List.mem_of_getElem? (i := 383) (by decide +kernel)) (by decide +kernel)
theorem lkcX10_54 : Cond.fieldLink RX10 54 (TX10 6).1 (TX10 6).2.1 (TX10 6).2.2.1 ∈ GW := inGW (List.mem_of_getElem? (i := 384) (by decide +kernel)) (by decide +kernel)
theorem lkcX10_63 : Cond.fieldLink RX10 63 (TX10 7).1 (TX10 7).2.1 (TX10 7).2.2.1 ∈ GW := inGW (List.mem_of_getElem? (i := 385) (by decide +kernel)) (by decide +kernel)
theorem lkcX10_67 : Cond.fieldLink RX10 67 (TX10 8).1 (TX10 8).2.1 (TX10 8).2.2.1 ∈ GW := inGW (List.mem_of_getElem? (i := 386) (by decide +kernel)) (by decide +kernel)
theorem lkcX10_71 : Cond.fieldLink RX10 71 (TX10 11).1 (TX10 11).2.1 (TX10 11).2.2.1 ∈ GW := inGW (List.mem_of_getElem? (i := 389) (by decide +kernel)) (by decide +kernel)
theorem lkcX10_75 : Cond.fieldLink RX10 75 (TX7 1).1 (TX7 1).2.1 (TX7 1).2.2.1 ∈ GW := inGW (List.mem_of_getElem? (i := 183) (by decide +kernel)) (by decide +kernel)
theorem lkcX11_7 : Cond.fieldLink RX11 7 (TX11 0).1 (TX11 0).2.1 (TX11 0).2.2.1 ∈ GW := inGW (List.mem_of_getElem? (i := 816) (by decide +kernel)) (by decide +kernel)
theorem lkcX11_13 : Cond.fieldLink RX11 13 (TX11 1).1 (TX11 1).2.1 (TX11 1).2.2.1 ∈ GW := inGW (List.mem_of_getElem? (i := 817) (by decide +kernel)) (by decide +kernel)
theorem lkcX11_16 : Cond.fieldLink RX11 16 (TX11 2).1 (TX11 2).2.1 (TX11 2).2.2.1 ∈ GW := inGW (List.mem_of_getElem? (i := 818) (by decide +kernel)) (by decide +kernel)
theorem lkcX11_19 : Cond.fieldLink RX11 19 (TX11 4).1 (TX11 4).2.1 (TX11 4).2.2.1 ∈ GW := inGW (List.mem_of_getElem? (i := 820) (by decide +kernel)) (by decide +kernel)
theorem lkcX11_22 : Cond.fieldLink RX11 22 (TX11 5).1 (TX11 5).2.1 (TX11 5).2.2.1 ∈ GW := inGW (List.mem_of_getElem? (i := 821) (by decide +kernel)) (by decide +kernel)
theorem lkcX11_25 : Cond.fieldLink RX11 25 (TX11 8).1 (TX11 8).2.1 (TX11 8).2.2.1 ∈ GW := inGW (List.mem_of_getElem? (i := 824) (by decide +kernel)) (by decide +kernel)
theorem lkcX11_28 : Cond.fieldLink RX11 28 (TX11 10).1 (TX11 10).2.1 (TX11 10).2.2.1 ∈ GW := inGW (List.mem_of_getElem? (i := 826) (by decide +kernel)) (by decide +kernel)
theorem lkcX11_31 : Cond.fieldLink RX11 31 (TX11 12).1 (TX11 12).2.1 (TX11 12).2.2.1 ∈ GW := inGW (List.mem_of_getElem? (i := 828) (by decide +kernel)) (by decide +kernel)
theorem lkcX11_34 : Cond.fieldLink RX11 34 (TX11 13).1 (TX11 13).2.1 (TX11 13).2.2.1 ∈ GW := inGW (List.mem_of_getElem? (i := 829) (by decide +kernel)) (by decide +kernel)
theorem lkcX11_38 : Cond.fieldLink RX11 38 (TX11 14).1 (TX11 14).2.1 (TX11 14).2.2.1 ∈ GW := inGW (List.mem_of_getElem? (i := 830) (by decide +kernel)) (by decide +kernel)
theorem lkcX11_41 : Cond.fieldLink RX11 41 (TX11 15).1 (TX11 15).2.1 (TX11 15).2.2.1 ∈ GW := inGW (List.mem_of_getElem? (i := 831) (by decide +kernel)) (by decide +kernel)
theorem lkcX11_44 : Cond.fieldLink RX11 44 (TX11 16).1 (TX11 16).2.1 (TX11 16).2.2.1 ∈ GW := inGW (List.mem_of_getElem? (i := 832) (by decide +kernel)) (by decide +kernel)
theorem lkcX11_47 : Cond.fieldLink RX11 47 (TX11 17).1 (TX11 17).2.1 (TX11 17).2.2.1 ∈ GW := inGW (List.mem_of_getElem? (i := 833) (by decide +kernel)) (by decide +kernel)
theorem lkcX11_50 : Cond.fieldLink RX11 50 (TX11 19).1 (TX11 19).2.1 (TX11 19).2.2.1 ∈ GW := inGW (List.mem_of_getElem? (i := 835) (by decide +kernel)) (by decide +kernel)
theorem lkcX11_54 : Cond.fieldLink RX11 54 (TX11 20).1 (TX11 20).2.1 (TX11 20).2.2.1 ∈ GW := inGW (List.mem_of_getElem? (i := 836) (by decide +kernel)) (by decide +kernel)
theorem lkcX11_57 : Cond.fieldLink RX11 57 (TX11 21).1 (TX11 21).2.1 (TX11 21).2.2.1 ∈ GW := inGW (List.mem_of_getElem? (i := 837) (by decide +kernel)) (by decide +kernel)
theorem lkcX11_60 : Cond.fieldLink RX11 60 (TX11 23).1 (TX11 23).2.1 (TX11 23).2.2.1 ∈ GW := inGW (List.mem_of_getElem? (i := 839) (by decide +kernel)) (by decide +kernel)
theorem lkcX11_63 : Cond.fieldLink RX11 63 (TX11 25).1 (TX11 25).2.1 (TX11 25).2.2.1 ∈ GW := inGW (List.mem_of_getElem? (i := 841) (by decide +kernel)) (by decide +kernel)
theorem lkcX11_66 : Cond.fieldLink RX11 66 (TX11 26).1 (TX11 26).2.1 (TX11 26).2.2.1 ∈ GW := inGW (List.mem_of_getElem? (i := 842) (by decide +kernel)) (by decide +kernel)
theorem lkcX11_69 : Cond.fieldLink RX11 69 (TX11 27).1 (TX11 27).2.1 (TX11 27).2.2.1 ∈ GW := inGW (List.mem_of_getElem? (i := 843) (by decide +kernel)) (by decide +kernel)
theorem lkcX2_9 : Cond.fieldLink RX2 9 (TX2 0).1 (TX2 0).2.1 (TX2 0).2.2.1 ∈ GW := inGW (List.mem_of_getElem? (i := 220) (by decide +kernel)) (by decide +kernel)
theorem lkcX2_15 : Cond.fieldLink RX2 15 (TX2 1).1 (TX2 1).2.1 (TX2 1).2.2.1 ∈ GW := inGW (List.mem_of_getElem? (i := 221) (by decide +kernel)) (by decide +kernel)
theorem lkcX3_14 : Cond.fieldLink RX3 14 (TX3 0).1 (TX3 0).2.1 (TX3 0).2.2.1 ∈ GW := inGW (List.mem_of_getElem? (i := 157) (by decide +kernel)) (by decide +kernel)
theorem lkcX3_20 : Cond.fieldLink RX3 20 (TX3 1).1 (TX3 1).2.1 (TX3 1).2.2.1 ∈ GW := inGW (List.mem_of_getElem? (i := 164) (by decide +kernel)) (by decide +kernel)
theorem lkcX4_12 : Cond.fieldLink RX4 12 (TX4 0).1 (TX4 0).2.1 (TX4 0).2.2.1 ∈ GW := inGW (List.mem_of_getElem? (i := 322) (by decide +kernel)) (by decide +kernel)
theorem lkcX4_18 : Cond.fieldLink RX4 18 (TX4 1).1 (TX4 1).2.1 (TX4 1).2.2.1 ∈ GW := inGW (List.mem_of_getElem? (i := 323) (by decide +kernel)) (by decide +kernel)
theorem lkcX4_21 : Cond.fieldLink RX4 21 (TX4 2).1 (TX4 2).2.1 (TX4 2).2.2.1 ∈ GW := inGW (List.mem_of_getElem? (i := 324) (by decide +kernel)) (by decide +kernel)
theorem lkcX4_25 : Cond.fieldLink RX4 25 (TX4 3).1 (TX4 3).2.1 (TX4 3).2.2.1 ∈ GW := inGW (List.mem_of_getElem? (i := 325) (by decide +kernel)) (by decide +kernel)
theorem lkcX5_9 : Cond.fieldLink RX5 9 (TX5 0).1 (TX5 0).2.1 (TX5 0).2.2.1 ∈ GW := inGW (List.mem_of_getElem? (i := 244) (by decide +kernel)) (by decide +kernel)
theorem lkcX6_11 : Cond.fieldLink RX6 11 (TX6 0).1 (TX6 0).2.1 (TX6 0).2.2.1 ∈ GW := inGW (List.mem_of_getElem? (i := 317) (by decide +kernel)) (by decide +kernel)
theorem lkcX7_11 : Cond.fieldLink RX7 11 (TX7 0).1 (TX7 0).2.1 (TX7 0).2.2.1 ∈ GW := inGW (List.mem_of_getElem? (i := 176) (by decide +kernel)) (by decide +kernel)
theorem lkcX7_22 : Cond.fieldLink RX7 22 (TX7 1).1 (TX7 1).2.1 (TX7 1).2.2.1 ∈ GW := inGW (List.mem_of_getElem? (i := 182) (by decide +kernel)) (by decide +kernel)
theorem lkcX8_13 : Cond.fieldLink RX8 13 (TX8 0).1 (TX8 0).2.1 (TX8 0).2.2.1 ∈ GW := inGW (List.mem_of_getElem? (i := 120) (by decide +kernel)) (by decide +kernel)
theorem lkcX8_19 : Cond.fieldLink RX8 19 (TX8 1).1 (TX8 1).2.1 (TX8 1).2.2.1 ∈ GW := inGW (List.mem_of_getElem? (i := 128) (by decide +kernel)) (by decide +kernel)
theorem lkcX9_14 : Cond.fieldLink RX9 14 (TX9 0).1 (TX9 0).2.1 (TX9 0).2.2.1 ∈ GW := inGW (List.mem_of_getElem? (i := 346) (by decide +kernel)) (by decide +kernel)
theorem lkcX9_20 : Cond.fieldLink RX9 20 (TX9 1).1 (TX9 1).2.1 (TX9 1).2.2.1 ∈ GW := inGW (List.mem_of_getElem? (i := 347) (by decide +kernel)) (by decide +kernel)
theorem mkcX8_7 : Cond.methodLink RX8 7 Lib.Math.max.name ∈ GW ∧ Cond.static Lib.Math.max.name ∈ GW ∧ Cond.initialized "java/lang/Math" ∈ GW ∧ Cond.code Lib.Math.max.name Lib.Math.max.code 2 (some .int) ∈ GW := ⟨qc117, qc118, qc83, qc119⟩
theorem vkcX10_78 : VOK RX10 78 yX8_startAs cX8_startAs 2 none 1 := vok_mk qc363 qc364 qc365 qc82 qc366 (by decide +kernel)
theorem dfX0 {b n : Nat} : ∀ j, j < 11 → defaultValue (tyX0 j) = vp_V (fvs b (fun _ _ => 0) (fun _ _ => 0) (fun _ _ => NUL) n 0 (fd 0)) j := by
  intro j hj
  rcases j with _ | j
  · rfl
  rcases j with _ | j
  · rfl
  rcases j with _ | j
  · rfl
  rcases j with _ | j
  · rfl
  rcases j with _ | j
  · rfl
  rcases j with _ | j
  · rfl
  rcases j with _ | j
  · rfl
  rcases j with _ | j
  · rfl
  rcases j with _ | j
  · rfl
  rcases j with _ | j
  · rfl
  rcases j with _ | j
  · rfl
  exact absurd hj (by omega)
theorem dfX1 {b n : Nat} : ∀ j, j < 2 → defaultValue (tyX1 j) = vp_V (fvs b (fun _ _ => 0) (fun _ _ => 0) (fun _ _ => NUL) n 0 (fd 1)) j := by
  intro j hj
  rcases j with _ | j
  · rfl
  rcases j with _ | j
  · rfl
  exact absurd hj (by omega)
theorem dfX2 {b n : Nat} : ∀ j, j < 5 → defaultValue (tyX2 j) = vp_V (fvs b (fun _ _ => 0) (fun _ _ => 0) (fun _ _ => NUL) n 0 (fd 2)) j := by
  intro j hj
  rcases j with _ | j
  · rfl
  rcases j with _ | j
  · rfl
  rcases j with _ | j
  · rfl
  rcases j with _ | j
  · rfl
  rcases j with _ | j
  · rfl
  exact absurd hj (by omega)
theorem dfX3 {b n : Nat} : ∀ j, j < 2 → defaultValue (tyX3 j) = vp_V (fvs b (fun _ _ => 0) (fun _ _ => 0) (fun _ _ => NUL) n 0 (fd 3)) j := by
  intro j hj
  rcases j with _ | j
  · rfl
  rcases j with _ | j
  · rfl
  exact absurd hj (by omega)
theorem dfX4 {b n : Nat} : ∀ j, j < 5 → defaultValue (tyX4 j) = vp_V (fvs b (fun _ _ => 0) (fun _ _ => 0) (fun _ _ => NUL) n 0 (fd 4)) j := by
  intro j hj
  rcases j with _ | j
  · rfl
  rcases j with _ | j
  · rfl
  rcases j with _ | j
  · rfl
  rcases j with _ | j
  · rfl
  rcases j with _ | j
  · rfl
  exact absurd hj (by omega)
theorem dfX5 {b n : Nat} : ∀ j, j < 2 → defaultValue (tyX5 j) = vp_V (fvs b (fun _ _ => 0) (fun _ _ => 0) (fun _ _ => NUL) n 0 (fd 5)) j := by
  intro j hj
  rcases j with _ | j
  · rfl
  rcases j with _ | j
  · rfl
  exact absurd hj (by omega)
theorem dfX6 {b n : Nat} : ∀ j, j < 1 → defaultValue (tyX6 j) = vp_V (fvs b (fun _ _ => 0) (fun _ _ => 0) (fun _ _ => NUL) n 0 (fd 6)) j := by
  intro j hj
  rcases j with _ | j
  · rfl
  exact absurd hj (by omega)
theorem dfX7 {b n : Nat} : ∀ j, j < 3 → defaultValue (tyX7 j) = vp_V (fvs b (fun _ _ => 0) (fun _ _ => 0) (fun _ _ => NUL) n 0 (fd 7)) j := by
  intro j hj
  rcases j with _ | j
  · rfl
  rcases j with _ | j
  · rfl
  rcases j with _ | j
  · rfl
  exact absurd hj (by omega)
theorem dfX8 {b n : Nat} : ∀ j, j < 3 → defaultValue (tyX8 j) = vp_V (fvs b (fun _ _ => 0) (fun _ _ => 0) (fun _ _ => NUL) n 0 (fd 8)) j := by
  intro j hj
  rcases j with _ | j
  · rfl
  rcases j with _ | j
  · rfl
  rcases j with _ | j
  · rfl
  exact absurd hj (by omega)
theorem dfX9 {b n : Nat} : ∀ j, j < 4 → defaultValue (tyX9 j) = vp_V (fvs b (fun _ _ => 0) (fun _ _ => 0) (fun _ _ => NUL) n 0 (fd 9)) j := by
  intro j hj
  rcases j with _ | j
  · rfl
  rcases j with _ | j
  · rfl
  rcases j with _ | j
  · rfl
  rcases j with _ | j
  · rfl
  exact absurd hj (by omega)
theorem dfX10 {b n : Nat} : ∀ j, j < 15 → defaultValue (tyX10 j) = vp_V (fvs b (fun _ _ => 0) (fun _ _ => 0) (fun _ _ => NUL) n 0 (fd 10)) j := by
  intro j hj
  rcases j with _ | j
  · rfl
  rcases j with _ | j
  · rfl
  rcases j with _ | j
  · rfl
  rcases j with _ | j
  · rfl
  rcases j with _ | j
  · rfl
  rcases j with _ | j
  · rfl
  rcases j with _ | j
  · rfl
  rcases j with _ | j
  · rfl
  rcases j with _ | j
  · rfl
  rcases j with _ | j
  · rfl
  rcases j with _ | j
  · rfl
  rcases j with _ | j
  · rfl
  rcases j with _ | j
  · rfl
  rcases j with _ | j
  · rfl
  rcases j with _ | j
  · rfl
  exact absurd hj (by omega)
theorem dfX11 {b n : Nat} : ∀ j, j < 32 → defaultValue (tyX11 j) = vp_V (fvs b (fun _ _ => 0) (fun _ _ => 0) (fun _ _ => NUL) n 0 (fd 11)) j := by
  intro j hj
  rcases j with _ | j
  · rfl
  rcases j with _ | j
  · rfl
  rcases j with _ | j
  · rfl
  rcases j with _ | j
  · rfl
  rcases j with _ | j
  · rfl
  rcases j with _ | j
  · rfl
  rcases j with _ | j
  · rfl
  rcases j with _ | j
  · rfl
  rcases j with _ | j
  · rfl
  rcases j with _ | j
  · rfl
  rcases j with _ | j
  · rfl
  rcases j with _ | j
  · rfl
  rcases j with _ | j
  · rfl
  rcases j with _ | j
  · rfl
  rcases j with _ | j
  · rfl
  rcases j with _ | j
  · rfl
  rcases j with _ | j
  · rfl
  rcases j with _ | j
  · rfl
  rcases j with _ | j
  · rfl
  rcases j with _ | j
  · rfl
  rcases j with _ | j
  · rfl
  rcases j with _ | j
  · rfl
  rcases j with _ | j
  · rfl
  rcases j with _ | j
  · rfl
  rcases j with _ | j
  · rfl
  rcases j with _ | j
  · rfl
  rcases j with _ | j
  · rfl
  rcases j with _ | j
  · rfl
  rcases j with _ | j
  · rfl
  rcases j with _ | j
  · rfl
  rcases j with _ | j
  · rfl
  rcases j with _ | j
  · rfl
  exact absurd hj (by omega)
theorem arrV_congr2 {cA : ClassId} {N : Nat} {f g : Nat → Value} (h : ∀ j, j < N → f j = g j) : arrV cA N f = arrV cA N g := by
  unfold arrV
  congr 1
  apply Array.ext
  · simp
  · intro i h1 h2
    simp at h1
    simp [h i h1]
theorem wd_fixR {D : va_G} {ce : Nat → ClassId} {b : Nat} {kd ln : Nat → Nat} {n : Nat} {I : mI} {L : mL} {R R1 : mR} {H : Heap} (h : ∀ x, x < n → ∀ k, ((kd x = 4 ∨ kd x = 5) → k < ln x → R x k = R1 x k) ∧ (¬ (kd x = 4 ∨ kd x = 5) → R x k = R1 x k)) (hP : va_P D vwCl (wd ce b kd ln n I L R) H) : va_P D vwCl (wd ce b kd ln n I L R1) H := by
  intro j q hq
  by_cases hj : j < n
  · have h1 := hP j _ (wd_at hj)
    rw [wd_at hj] at hq
    cases hq
    by_cases h4 : kd j = 4
    · rw [en_4 h4] at h1 ⊢
      have h2 : H[b + j]? = some (vp_cell _ _) := h1
      show H[b + j]? = some (vp_cell _ _)
      rw [h2, vp_cell_q, vp_cell_q]
      exact congrArg some (arrV_congr2 fun k hk => by rw [(h j hj k).1 (Or.inl h4) hk])
    · by_cases h5 : kd j = 5
      · rw [en_5 h5] at h1 ⊢
        have h2 : H[b + j]? = some (vp_cell _ _) := h1
        show H[b + j]? = some (vp_cell _ _)
        rw [h2, vp_cell_q, vp_cell_q]
        exact congrArg some (arrV_congr2 fun k hk => by rw [(h j hj k).1 (Or.inr h5) hk])
      · rw [← en_congr (I := I) (L := L) (R := R) rfl rfl (funext fun k => (h j hj k).2 (fun q => q.elim h4 h5))]
        exact h1
  · have hlen : (wd ce b kd ln n I L R1).length ≤ j := by simp [wd]; omega
    rw [List.getElem?_eq_none hlen] at hq
    cases hq
def rmcX8_init (N : Nat) : Room := { frames := 1, cells := 2, slots := 2 * N, locals := 30 }
def r_X8_init (R : mR) (a : Nat) : mR := u2 (u2 R a 0 (a + 1)) a 1 (a + 2)
theorem r_X8_init_lt {R : mR} {a x : Nat} (h : x < a) : r_X8_init R a x = R x := by
  unfold r_X8_init
  rw [u2_n _ _ _ (by omega), u2_n _ _ _ (by omega)]
theorem fr_X8_init {I : mI} {L : mL} {R : mR} {a : Nat} (hF : Fr (a + 1) I L R) : Fr (a + 3) I L (r_X8_init R a) := by
  unfold r_X8_init
  have hF := hF.mono (n' := a + 2) (by omega)
  have hF := hF.upR (k := 0) (v := (a + 1)) (a := a) (by omega)
  have hF := hF.mono (n' := a + 3) (by omega)
  have hF := hF.upR (k := 1) (v := (a + 2)) (a := a) (by omega)
  exact hF.mono (by omega)
set_option maxHeartbeats 8000000 in
set_option maxRecDepth 100000 in
theorem c_X8_init (l : Launch) (D : va_G) (ce : Nat → ClassId) (b : Nat) (I : mI) (L : mL) (R : mR) (a : Nat) (x1 : Int32) (N : Nat) (hx0 : ¬ (if (1 : Int32) < x1 then x1 else (1 : Int32)) < 0) (hx1 : (if (1 : Int32) < x1 then x1 else (1 : Int32)).toNatClampNeg = N) (hNb : N ≤ 100) (hk0 : kdC a = 14) (hk1 : kdC (a + 1) = 1) (hk2 : kdC (a + 2) = 1) (hl1 : lnC (a + 1) = N) (hl2 : lnC (a + 2) = N) (hF : Fr (a + 1) I L R) (hab : a + 3 ≤ 5000) : Met l yX8_init (Cond.code yX8_init cX8_init 3 none :: GW) (rmcX8_init N) (va_Pc [.ref (b + a), .int x1] (PN D ce b kdC lnC (a + 1) I L R)) (va_Qv (fun u => u = (I, L, r_X8_init R a)) (QN D ce b kdC lnC (a + 3)) (upA b)) 2 (2 * N) (upA b) := by
  refine Met.ofW (cc := cX8_init) (maxL := 3) (ret := none) (by decide) rfl ?_
  intro p e s m args below meth c s₁ B hml hv
  obtain ⟨rfl, hP, hKK, hz, hAO⟩ := hv
  have hx := B.exec
  have hb := B.bytes
  have hr := B.returns
  have hts0 := atoms_spec (ws := Cond.code yX8_init cX8_init 3 none :: GW) B.pre
  have hts : ∀ w ∈ GW, w.before _ s = true := fun w h => hts0 w (List.mem_cons_of_mem _ h)
  clear hts0
  have hown : s.vm.findClass RX8 = some m.cls := findClass_of_methodNamed B.named
  have hlocks := B.notSynchronized
  have hin : meth.name = "<init>" := (name_of_methodNamed B.named B.method).1
  have hA : ∀ n q, box b n q → upA b q := fun _ _ h => h.1
  have hAu : ∀ q, upA b q → upA b q := fun _ h => h
  have hS : va_S (upA b) s.heap s.heap [] := va_S.rf
  have hl := lv_entry ([.ref (b + a), .int x1]) (n := 3) (Nat.le_of_ble_eq_true rfl)
  rw [lg_entry_eq]
  generalize (lg_sl ([.ref (b + a), .int x1]) ++ List.replicate (3 - (lg_sl ([.ref (b + a), .int x1])).length) Slot.unset).toArray = ls at hl ⊢
  have hl : lv_has ls 3 [(0, .ref (b + a)), (1, .int x1)] := hl
  generalize ([.ref (b + a), .int x1] : List Value).toArray = av at hts ⊢
  show W p l e (rmcX8_init N) s m av below meth c s.heap [] 0 0 _ _
  refine lv_aload_n hx hb dX8_init_0 rfl (lv_at hl 0 rfl) ?_
  refine W.objInit hx hb hown (hts _ qc116) (hts _ qc101) (hts _ qc102) rfl (by rw [hml]; exact hl.1) rfl dX8_init_1 (Nat.le_of_ble_eq_true rfl) (Nat.le_of_ble_eq_true rfl) ?_
  refine W.eq (g2 := F0 m 4 ls []) rfl ?_
  refine lv_iconst (v := (1 : Int32)) hx hb dX8_init_4 (by decide) ?_
  refine lv_iload_n hx hb dX8_init_5 rfl (lv_at hl 1 rfl) ?_
  refine va_mmax hx hb (hml.trans hl.1.symm) hown (hts _ mkcX8_7.1) (hts _ mkcX8_7.2.1) (hts _ mkcX8_7.2.2.1) (hts _ mkcX8_7.2.2.2) (Nat.le_of_ble_eq_true rfl) (Nat.le_of_ble_eq_true rfl) (Nat.zero_le _) (Nat.zero_le _) dX8_init_6 ?_
  refine lv_istore_n (lv' := [(2, .int (if (1 : Int32) < x1 then x1 else (1 : Int32))), (0, .ref (b + a)), (1, .int x1)]) hx hb dX8_init_9 rfl hl (Nat.le_of_ble_eq_true rfl) rfl (fun ls hl => ?_)
  refine lv_aload_n hx hb dX8_init_10 rfl (lv_at hl 1 rfl) ?_
  refine lv_iload_n hx hb dX8_init_11 rfl (lv_at hl 0 rfl) ?_
  refine mm_newi (rest := [.ref (b + a)]) (n := (a + 1)) hx hb hts qc149 hKK hP hz hS hk1 hx0 (hx1.trans hl1.symm) (by rw [hl1]; omega) hF (Nat.le_of_ble_eq_true rfl) (by rw [hl1]; show _ + N ≤ 2 * N; omega) dX8_init_12 (fun H hP hz hS => ?_)
  rw [hl1]
  have hF := hF.mono (n' := (a + 2)) (Nat.le_succ _)
  have hP : va_P D vwCl (wd ce b kdC lnC (a + 2) I L (R)) H := hP
  have hz : H.size = b + (a + 2) := hz
  refine mm_putF (ty := .array .int) hx hb hts hown hKK hP (hA _) hS fkc8_0 (Nat.le_of_ble_eq_true rfl) ⟨tyX8_ok, nmX8, rfl, tyX8_ok 0 (by decide)⟩ lkcX8_13 hin rfl (by omega) hk0 (by have := hab; unfold NUL; omega) rfl rfl dX8_init_14 (fun H locs hP hz1 hS => ?_)
  have hz : H.size = b + (a + 2) := hz1.trans hz
  have hF := hF.upR (k := 0) (v := (a + 1)) (a := a) (by omega)
  have hP : va_P D vwCl (wd ce b kdC lnC (a + 2) I L (u2 R a 0 (a + 1))) H := hP
  refine lv_aload_n hx hb dX8_init_17 rfl (lv_at hl 1 rfl) ?_
  refine lv_iload_n hx hb dX8_init_18 rfl (lv_at hl 0 rfl) ?_
  refine mm_newi (rest := [.ref (b + a)]) (n := (a + 2)) hx hb hts qc149 hKK hP hz hS hk2 hx0 (hx1.trans hl2.symm) (by rw [hl2]; omega) hF (Nat.le_of_ble_eq_true rfl) (by rw [hl2]; show _ + N ≤ 2 * N; omega) dX8_init_19 (fun H hP hz hS => ?_)
  rw [hl2]
  have hF := hF.mono (n' := (a + 3)) (Nat.le_succ _)
  have hP : va_P D vwCl (wd ce b kdC lnC (a + 3) I L (u2 R a 0 (a + 1))) H := hP
  have hz : H.size = b + (a + 3) := hz
  refine mm_putF (ty := .array .int) hx hb hts hown hKK hP (hA _) hS fkc8_1 (Nat.le_of_ble_eq_true rfl) ⟨tyX8_ok, nmX8, rfl, tyX8_ok 1 (by decide)⟩ lkcX8_19 hin rfl (by omega) hk0 (by have := hab; unfold NUL; omega) rfl rfl dX8_init_21 (fun H locs hP hz1 hS => ?_)
  have hz : H.size = b + (a + 3) := hz1.trans hz
  have hF := hF.upR (k := 1) (v := (a + 2)) (a := a) (by omega)
  have hP : va_P D vwCl (wd ce b kdC lnC (a + 3) I L (u2 (u2 R a 0 (a + 1)) a 1 (a + 2))) H := hP
  refine W.widen (k := 2) (n := (2 * N)) (Nat.le_of_ble_eq_true rfl) (by show _ + N ≤ 2 * N; omega) ?_
  exact mm_vretN hx hb hr hlocks hP hz hS dX8_init_24
def rmcX3_init : Room := { frames := 2, cells := 6, slots := 54, locals := 52 }
def r_X3_init (R : mR) (a : Nat) : mR := u2 (r_X8_init (u2 (r_X8_init R (a + 1)) a 0 (a + 1)) (a + 4)) a 1 (a + 4)
theorem r_X3_init_lt {R : mR} {a x : Nat} (h : x < a) : r_X3_init R a x = R x := by
  unfold r_X3_init
  rw [u2_n _ _ _ (by omega), r_X8_init_lt (by omega), u2_n _ _ _ (by omega), r_X8_init_lt (by omega)]
theorem fr_X3_init {I : mI} {L : mL} {R : mR} {a : Nat} (hF : Fr (a + 1) I L R) : Fr (a + 7) I L (r_X3_init R a) := by
  unfold r_X3_init
  have hF := hF.mono (n' := a + 2) (by omega)
  have hF := fr_X8_init (a := (a + 1)) hF
  have hF : Fr (a + 4) _ _ _ := hF
  have hF := hF.upR (k := 0) (v := (a + 1)) (a := a) (by omega)
  have hF := hF.mono (n' := a + 5) (by omega)
  have hF := fr_X8_init (a := (a + 4)) hF
  have hF : Fr (a + 7) _ _ _ := hF
  have hF := hF.upR (k := 1) (v := (a + 4)) (a := a) (by omega)
  exact hF.mono (by omega)
set_option maxHeartbeats 8000000 in
set_option maxRecDepth 100000 in
theorem c_X3_init (l : Launch) (D : va_G) (ce : Nat → ClassId) (b : Nat) (I : mI) (L : mL) (R : mR) (a : Nat) (hs : ∀ j, j < 7 → kdC (a + j) = kdCl.getD (6 + j) 0 ∧ lnC (a + j) = lnCl.getD (6 + j) 0) (hF : Fr (a + 1) I L R) (hab : a + 7 ≤ 5000) : Met l yX3_init (Cond.code yX3_init cX3_init 1 none :: GW) rmcX3_init (va_Pc [.ref (b + a)] (PN D ce b kdC lnC (a + 1) I L R)) (va_Qv (fun u => u = (I, L, r_X3_init R a)) (QN D ce b kdC lnC (a + 7)) (upA b)) 6 54 (upA b) := by
  refine Met.ofW (cc := cX3_init) (maxL := 1) (ret := none) (by decide) rfl ?_
  intro p e s m args below meth c s₁ B hml hv
  obtain ⟨rfl, hP, hKK, hz, hAO⟩ := hv
  have hx := B.exec
  have hb := B.bytes
  have hr := B.returns
  have hts0 := atoms_spec (ws := Cond.code yX3_init cX3_init 1 none :: GW) B.pre
  have hts : ∀ w ∈ GW, w.before _ s = true := fun w h => hts0 w (List.mem_cons_of_mem _ h)
  clear hts0
  have hown : s.vm.findClass RX3 = some m.cls := findClass_of_methodNamed B.named
  have hlocks := B.notSynchronized
  have hin : meth.name = "<init>" := (name_of_methodNamed B.named B.method).1
  have hA : ∀ n q, box b n q → upA b q := fun _ _ h => h.1
  have hAu : ∀ q, upA b q → upA b q := fun _ h => h
  have hS : va_S (upA b) s.heap s.heap [] := va_S.rf
  have hl := lv_entry ([.ref (b + a)]) (n := 1) (Nat.le_of_ble_eq_true rfl)
  rw [lg_entry_eq]
  generalize (lg_sl ([.ref (b + a)]) ++ List.replicate (1 - (lg_sl ([.ref (b + a)])).length) Slot.unset).toArray = ls at hl ⊢
  have hl : lv_has ls 1 [(0, .ref (b + a))] := hl
  generalize ([.ref (b + a)] : List Value).toArray = av at hts ⊢
  show W p l e rmcX3_init s m av below meth c s.heap [] 0 0 _ _
  refine lv_aload_n hx hb dX3_init_0 rfl (lv_at hl 0 rfl) ?_
  refine W.objInit hx hb hown (hts _ qc154) (hts _ qc101) (hts _ qc102) rfl (by rw [hml]; exact hl.1) rfl dX3_init_1 (Nat.le_of_ble_eq_true rfl) (Nat.le_of_ble_eq_true rfl) ?_
  refine W.eq (g2 := F0 m 4 ls []) rfl ?_
  refine lv_aload_n hx hb dX3_init_4 rfl (lv_at hl 0 rfl) ?_
  refine mm_new (rest := [.ref (b + a)]) (C := RX8) (T := TX8) (N := 3) (ty := tyX8) (n := (a + 1)) hx hb hts hown inGX8 (ci := 8) rfl tyX8_ok ⟨qc155, qc112, qc82⟩ hKK hP hz hS (hs 1 (by decide)).1 hF dfX8 (Nat.le_of_ble_eq_true rfl) (Nat.le_of_ble_eq_true rfl) dX3_init_5 (fun H hP hz hS => ?_)
  have hF := hF.mono (n' := (a + 2)) (Nat.le_succ _)
  have hP : va_P D vwCl (wd ce b kdC lnC (a + 2) I L (R)) H := hP
  have hz : H.size = b + (a + 2) := hz
  refine lv_dup hx hb dX3_init_8 rfl ?_
  refine lv_bipush (v := (12 : Int32)) hx hb dX3_init_9 (by decide) ?_
  refine mm_I (rest := [.ref (b + (a + 1)), .ref (b + a)]) (rm := rmcX8_init 12) hx hb hml hown hts hKK hAO hP hz hS hAu (show IOK RX3 11 yX8_init cX8_init 3 1 from ⟨Or.inl qc156, qc114, qc82, qc115, rfl, by decide +kernel⟩) (c_X8_init l D ce b I L R (a + 1) (12 : Int32) 12 (by decide) (by decide) (by decide) (hs 1 (by decide)).1 (hs 2 (by decide)).1 (hs 3 (by decide)).1 (hs 2 (by decide)).2 (hs 3 (by decide)).2 hF (by have := hab; omega)) rfl hl.1 rfl (Nat.le_of_ble_eq_true rfl) ⟨rfl, rfl⟩ ⟨Nat.le_of_ble_eq_true rfl, Nat.le_of_ble_eq_true rfl⟩ ⟨Nat.le_of_ble_eq_true rfl, Nat.le_of_ble_eq_true rfl⟩ dX3_init_11 (fun H locs hP hz hS => ?_)
  have hF := fr_X8_init hF
  have hP : va_P D vwCl (wd ce b kdC lnC (a + 4) I L (r_X8_init R (a + 1))) H := hP
  have hz : H.size = b + (a + 4) := hz
  have hF : Fr (a + 4) I L (r_X8_init R (a + 1)) := hF
  refine mm_putF (ty := .object "FallingRules$Term") hx hb hts hown hKK hP (hA _) hS fkc3_0 (Nat.le_of_ble_eq_true rfl) ⟨tyX3_ok, nmX3, rfl, tyX3_ok 0 (by decide)⟩ lkcX3_14 hin rfl (by omega) (hs 0 (by decide)).1 (by have := hab; unfold NUL; omega) rfl rfl dX3_init_14 (fun H locs hP hz1 hS => ?_)
  have hz : H.size = b + (a + 4) := hz1.trans hz
  have hF := hF.upR (k := 0) (v := (a + 1)) (a := a) (by omega)
  have hP : va_P D vwCl (wd ce b kdC lnC (a + 4) I L (u2 (r_X8_init R (a + 1)) a 0 (a + 1))) H := hP
  refine lv_aload_n hx hb dX3_init_17 rfl (lv_at hl 0 rfl) ?_
  refine mm_new (rest := [.ref (b + a)]) (C := RX8) (T := TX8) (N := 3) (ty := tyX8) (n := (a + 4)) hx hb hts hown inGX8 (ci := 8) rfl tyX8_ok ⟨qc155, qc112, qc82⟩ hKK hP hz hS (hs 4 (by decide)).1 hF dfX8 (Nat.le_of_ble_eq_true rfl) (Nat.le_of_ble_eq_true rfl) dX3_init_18 (fun H hP hz hS => ?_)
  have hF := hF.mono (n' := (a + 5)) (Nat.le_succ _)
  have hP : va_P D vwCl (wd ce b kdC lnC (a + 5) I L (u2 (r_X8_init R (a + 1)) a 0 (a + 1))) H := hP
  have hz : H.size = b + (a + 5) := hz
  refine lv_dup hx hb dX3_init_21 rfl ?_
  refine lv_bipush (v := (12 : Int32)) hx hb dX3_init_22 (by decide) ?_
  refine mm_I (rest := [.ref (b + (a + 4)), .ref (b + a)]) (rm := rmcX8_init 12) hx hb hml hown hts hKK hAO hP hz hS hAu (show IOK RX3 11 yX8_init cX8_init 3 1 from ⟨Or.inl qc156, qc114, qc82, qc115, rfl, by decide +kernel⟩) (c_X8_init l D ce b I L (u2 (r_X8_init R (a + 1)) a 0 (a + 1)) (a + 4) (12 : Int32) 12 (by decide) (by decide) (by decide) (hs 4 (by decide)).1 (hs 5 (by decide)).1 (hs 6 (by decide)).1 (hs 5 (by decide)).2 (hs 6 (by decide)).2 hF (by have := hab; omega)) rfl hl.1 rfl (Nat.le_of_ble_eq_true rfl) ⟨rfl, rfl⟩ ⟨Nat.le_of_ble_eq_true rfl, Nat.le_of_ble_eq_true rfl⟩ ⟨Nat.le_of_ble_eq_true rfl, Nat.le_of_ble_eq_true rfl⟩ dX3_init_24 (fun H locs hP hz hS => ?_)
  have hF := fr_X8_init hF
  have hP : va_P D vwCl (wd ce b kdC lnC (a + 7) I L (r_X8_init (u2 (r_X8_init R (a + 1)) a 0 (a + 1)) (a + 4))) H := hP
  have hz : H.size = b + (a + 7) := hz
  have hF : Fr (a + 7) I L (r_X8_init (u2 (r_X8_init R (a + 1)) a 0 (a + 1)) (a + 4)) := hF
  refine mm_putF (ty := .object "FallingRules$Term") hx hb hts hown hKK hP (hA _) hS fkc3_1 (Nat.le_of_ble_eq_true rfl) ⟨tyX3_ok, nmX3, rfl, tyX3_ok 1 (by decide)⟩ lkcX3_20 hin rfl (by omega) (hs 0 (by decide)).1 (by have := hab; unfold NUL; omega) rfl rfl dX3_init_27 (fun H locs hP hz1 hS => ?_)
  have hz : H.size = b + (a + 7) := hz1.trans hz
  have hF := hF.upR (k := 1) (v := (a + 4)) (a := a) (by omega)
  have hP : va_P D vwCl (wd ce b kdC lnC (a + 7) I L (u2 (r_X8_init (u2 (r_X8_init R (a + 1)) a 0 (a + 1)) (a + 4)) a 1 (a + 4))) H := hP
  refine W.widen (k := 6) (n := 54) (Nat.le_of_ble_eq_true rfl) (Nat.le_of_ble_eq_true rfl) ?_
  exact mm_vretN hx hb hr hlocks hP hz hS dX3_init_30
def rmcX7_init : Room := { frames := 3, cells := 39, slots := 408, locals := 72 }
def r_X7_init (R : mR) (a : Nat) : mR := u2 (r_X3_init (u2 (r_X3_init (u2 (r_X3_init (u2 (r_X3_init (u2 (r_X3_init (u2 (r_X8_init (u2 R a 0 (a + 1)) (a + 2)) a 1 (a + 2)) (a + 5)) (a + 1) 0 (a + 5)) (a + 12)) (a + 1) 1 (a + 12)) (a + 19)) (a + 1) 2 (a + 19)) (a + 26)) (a + 1) 3 (a + 26)) (a + 33)) (a + 1) 4 (a + 33)
theorem r_X7_init_lt {R : mR} {a x : Nat} (h : x < a) : r_X7_init R a x = R x := by
  unfold r_X7_init
  rw [u2_n _ _ _ (by omega), r_X3_init_lt (by omega), u2_n _ _ _ (by omega), r_X3_init_lt (by omega), u2_n _ _ _ (by omega), r_X3_init_lt (by omega), u2_n _ _ _ (by omega), r_X3_init_lt (by omega), u2_n _ _ _ (by omega), r_X3_init_lt (by omega), u2_n _ _ _ (by omega), r_X8_init_lt (by omega), u2_n _ _ _ (by omega)]
theorem fr_X7_init {I : mI} {L : mL} {R : mR} {a : Nat} (hF : Fr (a + 1) I L R) : Fr (a + 40) I L (r_X7_init R a) := by
  unfold r_X7_init
  have hF := hF.mono (n' := a + 2) (by omega)
  have hF := hF.upR (k := 0) (v := (a + 1)) (a := a) (by omega)
  have hF := hF.mono (n' := a + 3) (by omega)
  have hF := fr_X8_init (a := (a + 2)) hF
  have hF : Fr (a + 5) _ _ _ := hF
  have hF := hF.upR (k := 1) (v := (a + 2)) (a := a) (by omega)
  have hF := hF.mono (n' := a + 6) (by omega)
  have hF := fr_X3_init (a := (a + 5)) hF
  have hF : Fr (a + 12) _ _ _ := hF
  have hF := hF.upR (k := 0) (v := (a + 5)) (a := (a + 1)) (by omega)
  have hF := hF.mono (n' := a + 13) (by omega)
  have hF := fr_X3_init (a := (a + 12)) hF
  have hF : Fr (a + 19) _ _ _ := hF
  have hF := hF.upR (k := 1) (v := (a + 12)) (a := (a + 1)) (by omega)
  have hF := hF.mono (n' := a + 20) (by omega)
  have hF := fr_X3_init (a := (a + 19)) hF
  have hF : Fr (a + 26) _ _ _ := hF
  have hF := hF.upR (k := 2) (v := (a + 19)) (a := (a + 1)) (by omega)
  have hF := hF.mono (n' := a + 27) (by omega)
  have hF := fr_X3_init (a := (a + 26)) hF
  have hF : Fr (a + 33) _ _ _ := hF
  have hF := hF.upR (k := 3) (v := (a + 26)) (a := (a + 1)) (by omega)
  have hF := hF.mono (n' := a + 34) (by omega)
  have hF := fr_X3_init (a := (a + 33)) hF
  have hF : Fr (a + 40) _ _ _ := hF
  have hF := hF.upR (k := 4) (v := (a + 33)) (a := (a + 1)) (by omega)
  exact hF.mono (by omega)
set_option maxHeartbeats 8000000 in
set_option maxRecDepth 100000 in
theorem c_X7_init (l : Launch) (D : va_G) (ce : Nat → ClassId) (b : Nat) (I : mI) (L : mL) (R : mR) (a : Nat) (hs : ∀ j, j < 40 → kdC (a + j) = kdCl.getD (1 + j) 0 ∧ lnC (a + j) = lnCl.getD (1 + j) 0) (hF : Fr (a + 1) I L R) (hab : a + 40 ≤ 5000) : Met l yX7_init (Cond.code yX7_init cX7_init 2 none :: GW) rmcX7_init (va_Pc [.ref (b + a)] (PN D ce b kdC lnC (a + 1) I L R)) (va_Qv (fun u => u = (I, L, r_X7_init R a)) (QN D ce b kdC lnC (a + 40)) (upA b)) 39 408 (upA b) := by
  refine Met.ofW (cc := cX7_init) (maxL := 2) (ret := none) (by decide) rfl ?_
  intro p e s m args below meth c s₁ B hml hv
  obtain ⟨rfl, hP, hKK, hz, hAO⟩ := hv
  have hx := B.exec
  have hb := B.bytes
  have hr := B.returns
  have hts0 := atoms_spec (ws := Cond.code yX7_init cX7_init 2 none :: GW) B.pre
  have hts : ∀ w ∈ GW, w.before _ s = true := fun w h => hts0 w (List.mem_cons_of_mem _ h)
  clear hts0
  have hown : s.vm.findClass RX7 = some m.cls := findClass_of_methodNamed B.named
  have hlocks := B.notSynchronized
  have hin : meth.name = "<init>" := (name_of_methodNamed B.named B.method).1
  have hA : ∀ n q, box b n q → upA b q := fun _ _ h => h.1
  have hAu : ∀ q, upA b q → upA b q := fun _ h => h
  have hS : va_S (upA b) s.heap s.heap [] := va_S.rf
  have hl := lv_entry ([.ref (b + a)]) (n := 2) (Nat.le_of_ble_eq_true rfl)
  rw [lg_entry_eq]
  generalize (lg_sl ([.ref (b + a)]) ++ List.replicate (2 - (lg_sl ([.ref (b + a)])).length) Slot.unset).toArray = ls at hl ⊢
  have hl : lv_has ls 2 [(0, .ref (b + a))] := hl
  generalize ([.ref (b + a)] : List Value).toArray = av at hts ⊢
  show W p l e rmcX7_init s m av below meth c s.heap [] 0 0 _ _
  refine lv_aload_n hx hb dX7_init_0 rfl (lv_at hl 0 rfl) ?_
  refine W.objInit hx hb hown (hts _ qc108) (hts _ qc101) (hts _ qc102) rfl (by rw [hml]; exact hl.1) rfl dX7_init_1 (Nat.le_of_ble_eq_true rfl) (Nat.le_of_ble_eq_true rfl) ?_
  refine W.eq (g2 := F0 m 4 ls []) rfl ?_
  refine lv_aload_n hx hb dX7_init_4 rfl (lv_at hl 0 rfl) ?_
  refine lv_iconst (v := (5 : Int32)) hx hb dX7_init_5 (by decide) ?_
  refine mm_newr (C := RX3) (t0 := 3) (rest := [.ref (b + a)]) (n := (a + 1)) hx hb hts hown qc109 hAO.1 hKK hP hz hS rfl (en_4 (hs 1 (by decide)).1) (by decide) (by rw [(hs 1 (by decide)).2]; rfl) (by rw [(hs 1 (by decide)).2]; decide) hF (Nat.le_of_ble_eq_true rfl) (by rw [(hs 1 (by decide)).2]; exact Nat.le_of_ble_eq_true rfl) dX7_init_6 (fun H hP hz hS => ?_)
  rw [(hs 1 (by decide)).2]
  have hF := hF.mono (n' := (a + 2)) (Nat.le_succ _)
  have hP : va_P D vwCl (wd ce b kdC lnC (a + 2) I L (R)) H := hP
  have hz : H.size = b + (a + 2) := hz
  refine mm_putF (ty := .array (.object "FallingRules$Rule")) hx hb hts hown hKK hP (hA _) hS fkc7_0 (Nat.le_of_ble_eq_true rfl) ⟨tyX7_ok, nmX7, rfl, tyX7_ok 0 (by decide)⟩ lkcX7_11 hin rfl (by omega) (hs 0 (by decide)).1 (by have := hab; unfold NUL; omega) rfl rfl dX7_init_9 (fun H locs hP hz1 hS => ?_)
  have hz : H.size = b + (a + 2) := hz1.trans hz
  have hF := hF.upR (k := 0) (v := (a + 1)) (a := a) (by omega)
  have eR : (u2 R a 0 (a + 1)) a 0 = a + 1 := by rw [u2_s, va_up_s]
  have hP : va_P D vwCl (wd ce b kdC lnC (a + 2) I L (u2 R a 0 (a + 1))) H := hP
  refine lv_aload_n hx hb dX7_init_12 rfl (lv_at hl 0 rfl) ?_
  refine mm_new (rest := [.ref (b + a)]) (C := RX8) (T := TX8) (N := 3) (ty := tyX8) (n := (a + 2)) hx hb hts hown inGX8 (ci := 8) rfl tyX8_ok ⟨qc111, qc112, qc82⟩ hKK hP hz hS (hs 2 (by decide)).1 hF dfX8 (Nat.le_of_ble_eq_true rfl) (Nat.le_of_ble_eq_true rfl) dX7_init_13 (fun H hP hz hS => ?_)
  have hF := hF.mono (n' := (a + 3)) (Nat.le_succ _)
  have hP : va_P D vwCl (wd ce b kdC lnC (a + 3) I L (u2 R a 0 (a + 1))) H := hP
  have hz : H.size = b + (a + 3) := hz
  refine lv_dup hx hb dX7_init_16 rfl ?_
  refine lv_bipush (v := (60 : Int32)) hx hb dX7_init_17 (by decide) ?_
  refine mm_I (rest := [.ref (b + (a + 2)), .ref (b + a)]) (rm := rmcX8_init 60) hx hb hml hown hts hKK hAO hP hz hS hAu (show IOK RX7 19 yX8_init cX8_init 3 1 from ⟨Or.inl qc113, qc114, qc82, qc115, rfl, by decide +kernel⟩) (c_X8_init l D ce b I L (u2 R a 0 (a + 1)) (a + 2) (60 : Int32) 60 (by decide) (by decide) (by decide) (hs 2 (by decide)).1 (hs 3 (by decide)).1 (hs 4 (by decide)).1 (hs 3 (by decide)).2 (hs 4 (by decide)).2 hF (by have := hab; omega)) rfl hl.1 rfl (Nat.le_of_ble_eq_true rfl) ⟨rfl, rfl⟩ ⟨Nat.le_of_ble_eq_true rfl, Nat.le_of_ble_eq_true rfl⟩ ⟨Nat.le_of_ble_eq_true rfl, Nat.le_of_ble_eq_true rfl⟩ dX7_init_19 (fun H locs hP hz hS => ?_)
  have hF := fr_X8_init hF
  have eR : (r_X8_init (u2 R a 0 (a + 1)) (a + 2)) a 0 = a + 1 := by rw [r_X8_init_lt (by omega)]; exact eR
  have hP : va_P D vwCl (wd ce b kdC lnC (a + 5) I L (r_X8_init (u2 R a 0 (a + 1)) (a + 2))) H := hP
  have hz : H.size = b + (a + 5) := hz
  have hF : Fr (a + 5) I L (r_X8_init (u2 R a 0 (a + 1)) (a + 2)) := hF
  refine mm_putF (ty := .object "FallingRules$Term") hx hb hts hown hKK hP (hA _) hS fkc7_1 (Nat.le_of_ble_eq_true rfl) ⟨tyX7_ok, nmX7, rfl, tyX7_ok 1 (by decide)⟩ lkcX7_22 hin rfl (by omega) (hs 0 (by decide)).1 (by have := hab; unfold NUL; omega) rfl rfl dX7_init_22 (fun H locs hP hz1 hS => ?_)
  have hz : H.size = b + (a + 5) := hz1.trans hz
  have hF := hF.upR (k := 1) (v := (a + 2)) (a := a) (by omega)
  have eR : (u2 (r_X8_init (u2 R a 0 (a + 1)) (a + 2)) a 1 (a + 2)) a 0 = a + 1 := by rw [u2_s, va_up_n _ _ (by decide)]; exact eR
  have hP : va_P D vwCl (wd ce b kdC lnC (a + 5) I L (u2 (r_X8_init (u2 R a 0 (a + 1)) (a + 2)) a 1 (a + 2))) H := hP
  refine lv_iconst (v := (0 : Int32)) hx hb dX7_init_25 (by decide) ?_
  refine lv_istore_n (lv' := [(1, .int (0 : Int32)), (0, .ref (b + a))]) hx hb dX7_init_26 rfl hl (Nat.le_of_ble_eq_true rfl) rfl (fun ls hl => ?_)
  refine lv_iload_n hx hb dX7_init_27 rfl (lv_at hl 0 rfl) ?_
  refine lv_iconst (v := (5 : Int32)) hx hb dX7_init_28 (by decide) ?_
  refine lv_icmp_ge (tgt := 51) hx hb dX7_init_29 (by decide) (fun cq => absurd cq (by decide)) (fun cq => ?_)
  refine lv_aload_n hx hb dX7_init_32 rfl (lv_at hl 1 rfl) ?_
  refine mm_getr hx hb hts hown hKK hP fkc7_0 (Nat.le_of_ble_eq_true rfl) lkcX7_11 (by omega) (hs 0 (by decide)).1 (by rw [eR]; have := hab; unfold NUL; omega) dX7_init_33 ?_
  rw [eR]
  refine lv_iload_n hx hb dX7_init_36 rfl (lv_at hl 0 rfl) ?_
  refine mm_new (rest := [.int (0 : Int32), .ref (b + (a + 1))]) (C := RX3) (T := TX3) (N := 2) (ty := tyX3) (n := (a + 5)) hx hb hts hown inGX3 (ci := 3) rfl tyX3_ok ⟨qc109, qc150, qc84⟩ hKK hP hz hS (hs 5 (by decide)).1 hF dfX3 (Nat.le_of_ble_eq_true rfl) (Nat.le_of_ble_eq_true rfl) dX7_init_37 (fun H hP hz hS => ?_)
  have hF := hF.mono (n' := (a + 6)) (Nat.le_succ _)
  have hP : va_P D vwCl (wd ce b kdC lnC (a + 6) I L (u2 (r_X8_init (u2 R a 0 (a + 1)) (a + 2)) a 1 (a + 2))) H := hP
  have hz : H.size = b + (a + 6) := hz
  refine lv_dup hx hb dX7_init_40 rfl ?_
  refine mm_I (rest := [.ref (b + (a + 5)), .int (0 : Int32), .ref (b + (a + 1))]) (rm := rmcX3_init) hx hb hml hown hts hKK hAO hP hz hS hAu (show IOK RX7 26 yX3_init cX3_init 1 0 from ⟨Or.inr (List.mem_of_getElem? (i := 0) rfl), qc152, qc84, qc153, rfl, by decide +kernel⟩) (c_X3_init l D ce b I L (u2 (r_X8_init (u2 R a 0 (a + 1)) (a + 2)) a 1 (a + 2)) (a + 5) (fun j hj => by have h := hs (5 + j) (by omega); rw [← Nat.add_assoc] at h; exact ⟨h.1.trans ((by decide : ∀ j, j < 7 → kdCl.getD (1 + (5 + j)) 0 = kdCl.getD (6 + j) 0) j hj), h.2.trans ((by decide : ∀ j, j < 7 → lnCl.getD (1 + (5 + j)) 0 = lnCl.getD (6 + j) 0) j hj)⟩) hF (by have := hab; omega)) rfl hl.1 rfl (Nat.le_of_ble_eq_true rfl) ⟨rfl, rfl⟩ ⟨Nat.le_of_ble_eq_true rfl, Nat.le_of_ble_eq_true rfl⟩ ⟨Nat.le_of_ble_eq_true rfl, Nat.le_of_ble_eq_true rfl⟩ dX7_init_41 (fun H locs hP hz hS => ?_)
  have hF := fr_X3_init hF
  have eR : (r_X3_init (u2 (r_X8_init (u2 R a 0 (a + 1)) (a + 2)) a 1 (a + 2)) (a + 5)) a 0 = a + 1 := by rw [r_X3_init_lt (by omega)]; exact eR
  have hP : va_P D vwCl (wd ce b kdC lnC (a + 12) I L (r_X3_init (u2 (r_X8_init (u2 R a 0 (a + 1)) (a + 2)) a 1 (a + 2)) (a + 5))) H := hP
  have hz : H.size = b + (a + 12) := hz
  have hF : Fr (a + 12) I L (r_X3_init (u2 (r_X8_init (u2 R a 0 (a + 1)) (a + 2)) a 1 (a + 2)) (a + 5)) := hF
  refine mm_aastN (t0 := 3) (cv := 3) (rr := (RX3, TX3, 2)) hx hb hKK hP hz (hA _) hS (by omega) rfl rfl (fun R => en_4 (hs 1 (by decide)).1) (by omega) (hs 5 (by decide)).1 (by have := hab; unfold NUL; omega) (by rw [(hs 1 (by decide)).2]; rfl) dX7_init_44 (fun H locs hP hz hS => ?_)
  have eR : (u2 (r_X3_init (u2 (r_X8_init (u2 R a 0 (a + 1)) (a + 2)) a 1 (a + 2)) (a + 5)) (a + 1) 0 (a + 5)) a 0 = a + 1 := by rw [u2_n _ _ _ (by omega)]; exact eR
  have hF := hF.upR (k := 0) (v := (a + 5)) (a := (a + 1)) (by omega)
  have hP : va_P D vwCl (wd ce b kdC lnC (a + 12) I L (u2 (r_X3_init (u2 (r_X8_init (u2 R a 0 (a + 1)) (a + 2)) a 1 (a + 2)) (a + 5)) (a + 1) 0 (a + 5))) H := hP
  refine lv_iinc (v := (1 : Int32)) (lv' := [(1, .int (1 : Int32)), (0, .ref (b + a))]) hx hb dX7_init_45 hl (k := 0) rfl (by decide) (Nat.le_of_ble_eq_true rfl) rfl (fun ls hl => ?_)
  refine lv_goto (tgt := 27) hx hb dX7_init_48 (by decide) ?_
  refine lv_iload_n hx hb dX7_init_27 rfl (lv_at hl 0 rfl) ?_
  refine lv_iconst (v := (5 : Int32)) hx hb dX7_init_28 (by decide) ?_
  refine lv_icmp_ge (tgt := 51) hx hb dX7_init_29 (by decide) (fun cq => absurd cq (by decide)) (fun cq => ?_)
  refine lv_aload_n hx hb dX7_init_32 rfl (lv_at hl 1 rfl) ?_
  refine mm_getr hx hb hts hown hKK hP fkc7_0 (Nat.le_of_ble_eq_true rfl) lkcX7_11 (by omega) (hs 0 (by decide)).1 (by rw [eR]; have := hab; unfold NUL; omega) dX7_init_33 ?_
  rw [eR]
  refine lv_iload_n hx hb dX7_init_36 rfl (lv_at hl 0 rfl) ?_
  refine mm_new (rest := [.int (1 : Int32), .ref (b + (a + 1))]) (C := RX3) (T := TX3) (N := 2) (ty := tyX3) (n := (a + 12)) hx hb hts hown inGX3 (ci := 3) rfl tyX3_ok ⟨qc109, qc150, qc84⟩ hKK hP hz hS (hs 12 (by decide)).1 hF dfX3 (Nat.le_of_ble_eq_true rfl) (Nat.le_of_ble_eq_true rfl) dX7_init_37 (fun H hP hz hS => ?_)
  have hF := hF.mono (n' := (a + 13)) (Nat.le_succ _)
  have hP : va_P D vwCl (wd ce b kdC lnC (a + 13) I L (u2 (r_X3_init (u2 (r_X8_init (u2 R a 0 (a + 1)) (a + 2)) a 1 (a + 2)) (a + 5)) (a + 1) 0 (a + 5))) H := hP
  have hz : H.size = b + (a + 13) := hz
  refine lv_dup hx hb dX7_init_40 rfl ?_
  refine mm_I (rest := [.ref (b + (a + 12)), .int (1 : Int32), .ref (b + (a + 1))]) (rm := rmcX3_init) hx hb hml hown hts hKK hAO hP hz hS hAu (show IOK RX7 26 yX3_init cX3_init 1 0 from ⟨Or.inr (List.mem_of_getElem? (i := 0) rfl), qc152, qc84, qc153, rfl, by decide +kernel⟩) (c_X3_init l D ce b I L (u2 (r_X3_init (u2 (r_X8_init (u2 R a 0 (a + 1)) (a + 2)) a 1 (a + 2)) (a + 5)) (a + 1) 0 (a + 5)) (a + 12) (fun j hj => by have h := hs (12 + j) (by omega); rw [← Nat.add_assoc] at h; exact ⟨h.1.trans ((by decide : ∀ j, j < 7 → kdCl.getD (1 + (12 + j)) 0 = kdCl.getD (6 + j) 0) j hj), h.2.trans ((by decide : ∀ j, j < 7 → lnCl.getD (1 + (12 + j)) 0 = lnCl.getD (6 + j) 0) j hj)⟩) hF (by have := hab; omega)) rfl hl.1 rfl (Nat.le_of_ble_eq_true rfl) ⟨rfl, rfl⟩ ⟨Nat.le_of_ble_eq_true rfl, Nat.le_of_ble_eq_true rfl⟩ ⟨Nat.le_of_ble_eq_true rfl, Nat.le_of_ble_eq_true rfl⟩ dX7_init_41 (fun H locs hP hz hS => ?_)
  have hF := fr_X3_init hF
  have eR : (r_X3_init (u2 (r_X3_init (u2 (r_X8_init (u2 R a 0 (a + 1)) (a + 2)) a 1 (a + 2)) (a + 5)) (a + 1) 0 (a + 5)) (a + 12)) a 0 = a + 1 := by rw [r_X3_init_lt (by omega)]; exact eR
  have hP : va_P D vwCl (wd ce b kdC lnC (a + 19) I L (r_X3_init (u2 (r_X3_init (u2 (r_X8_init (u2 R a 0 (a + 1)) (a + 2)) a 1 (a + 2)) (a + 5)) (a + 1) 0 (a + 5)) (a + 12))) H := hP
  have hz : H.size = b + (a + 19) := hz
  have hF : Fr (a + 19) I L (r_X3_init (u2 (r_X3_init (u2 (r_X8_init (u2 R a 0 (a + 1)) (a + 2)) a 1 (a + 2)) (a + 5)) (a + 1) 0 (a + 5)) (a + 12)) := hF
  refine mm_aastN (t0 := 3) (cv := 3) (rr := (RX3, TX3, 2)) hx hb hKK hP hz (hA _) hS (by omega) rfl rfl (fun R => en_4 (hs 1 (by decide)).1) (by omega) (hs 12 (by decide)).1 (by have := hab; unfold NUL; omega) (by rw [(hs 1 (by decide)).2]; rfl) dX7_init_44 (fun H locs hP hz hS => ?_)
  have eR : (u2 (r_X3_init (u2 (r_X3_init (u2 (r_X8_init (u2 R a 0 (a + 1)) (a + 2)) a 1 (a + 2)) (a + 5)) (a + 1) 0 (a + 5)) (a + 12)) (a + 1) 1 (a + 12)) a 0 = a + 1 := by rw [u2_n _ _ _ (by omega)]; exact eR
  have hF := hF.upR (k := 1) (v := (a + 12)) (a := (a + 1)) (by omega)
  have hP : va_P D vwCl (wd ce b kdC lnC (a + 19) I L (u2 (r_X3_init (u2 (r_X3_init (u2 (r_X8_init (u2 R a 0 (a + 1)) (a + 2)) a 1 (a + 2)) (a + 5)) (a + 1) 0 (a + 5)) (a + 12)) (a + 1) 1 (a + 12))) H := hP
  refine lv_iinc (v := (2 : Int32)) (lv' := [(1, .int (2 : Int32)), (0, .ref (b + a))]) hx hb dX7_init_45 hl (k := 0) rfl (by decide) (Nat.le_of_ble_eq_true rfl) rfl (fun ls hl => ?_)
  refine lv_goto (tgt := 27) hx hb dX7_init_48 (by decide) ?_
  refine lv_iload_n hx hb dX7_init_27 rfl (lv_at hl 0 rfl) ?_
  refine lv_iconst (v := (5 : Int32)) hx hb dX7_init_28 (by decide) ?_
  refine lv_icmp_ge (tgt := 51) hx hb dX7_init_29 (by decide) (fun cq => absurd cq (by decide)) (fun cq => ?_)
  refine lv_aload_n hx hb dX7_init_32 rfl (lv_at hl 1 rfl) ?_
  refine mm_getr hx hb hts hown hKK hP fkc7_0 (Nat.le_of_ble_eq_true rfl) lkcX7_11 (by omega) (hs 0 (by decide)).1 (by rw [eR]; have := hab; unfold NUL; omega) dX7_init_33 ?_
  rw [eR]
  refine lv_iload_n hx hb dX7_init_36 rfl (lv_at hl 0 rfl) ?_
  refine mm_new (rest := [.int (2 : Int32), .ref (b + (a + 1))]) (C := RX3) (T := TX3) (N := 2) (ty := tyX3) (n := (a + 19)) hx hb hts hown inGX3 (ci := 3) rfl tyX3_ok ⟨qc109, qc150, qc84⟩ hKK hP hz hS (hs 19 (by decide)).1 hF dfX3 (Nat.le_of_ble_eq_true rfl) (Nat.le_of_ble_eq_true rfl) dX7_init_37 (fun H hP hz hS => ?_)
  have hF := hF.mono (n' := (a + 20)) (Nat.le_succ _)
  have hP : va_P D vwCl (wd ce b kdC lnC (a + 20) I L (u2 (r_X3_init (u2 (r_X3_init (u2 (r_X8_init (u2 R a 0 (a + 1)) (a + 2)) a 1 (a + 2)) (a + 5)) (a + 1) 0 (a + 5)) (a + 12)) (a + 1) 1 (a + 12))) H := hP
  have hz : H.size = b + (a + 20) := hz
  refine lv_dup hx hb dX7_init_40 rfl ?_
  refine mm_I (rest := [.ref (b + (a + 19)), .int (2 : Int32), .ref (b + (a + 1))]) (rm := rmcX3_init) hx hb hml hown hts hKK hAO hP hz hS hAu (show IOK RX7 26 yX3_init cX3_init 1 0 from ⟨Or.inr (List.mem_of_getElem? (i := 0) rfl), qc152, qc84, qc153, rfl, by decide +kernel⟩) (c_X3_init l D ce b I L (u2 (r_X3_init (u2 (r_X3_init (u2 (r_X8_init (u2 R a 0 (a + 1)) (a + 2)) a 1 (a + 2)) (a + 5)) (a + 1) 0 (a + 5)) (a + 12)) (a + 1) 1 (a + 12)) (a + 19) (fun j hj => by have h := hs (19 + j) (by omega); rw [← Nat.add_assoc] at h; exact ⟨h.1.trans ((by decide : ∀ j, j < 7 → kdCl.getD (1 + (19 + j)) 0 = kdCl.getD (6 + j) 0) j hj), h.2.trans ((by decide : ∀ j, j < 7 → lnCl.getD (1 + (19 + j)) 0 = lnCl.getD (6 + j) 0) j hj)⟩) hF (by have := hab; omega)) rfl hl.1 rfl (Nat.le_of_ble_eq_true rfl) ⟨rfl, rfl⟩ ⟨Nat.le_of_ble_eq_true rfl, Nat.le_of_ble_eq_true rfl⟩ ⟨Nat.le_of_ble_eq_true rfl, Nat.le_of_ble_eq_true rfl⟩ dX7_init_41 (fun H locs hP hz hS => ?_)
  have hF := fr_X3_init hF
  have eR : (r_X3_init (u2 (r_X3_init (u2 (r_X3_init (u2 (r_X8_init (u2 R a 0 (a + 1)) (a + 2)) a 1 (a + 2)) (a + 5)) (a + 1) 0 (a + 5)) (a + 12)) (a + 1) 1 (a + 12)) (a + 19)) a 0 = a + 1 := by rw [r_X3_init_lt (by omega)]; exact eR
  have hP : va_P D vwCl (wd ce b kdC lnC (a + 26) I L (r_X3_init (u2 (r_X3_init (u2 (r_X3_init (u2 (r_X8_init (u2 R a 0 (a + 1)) (a + 2)) a 1 (a + 2)) (a + 5)) (a + 1) 0 (a + 5)) (a + 12)) (a + 1) 1 (a + 12)) (a + 19))) H := hP
  have hz : H.size = b + (a + 26) := hz
  have hF : Fr (a + 26) I L (r_X3_init (u2 (r_X3_init (u2 (r_X3_init (u2 (r_X8_init (u2 R a 0 (a + 1)) (a + 2)) a 1 (a + 2)) (a + 5)) (a + 1) 0 (a + 5)) (a + 12)) (a + 1) 1 (a + 12)) (a + 19)) := hF
  refine mm_aastN (t0 := 3) (cv := 3) (rr := (RX3, TX3, 2)) hx hb hKK hP hz (hA _) hS (by omega) rfl rfl (fun R => en_4 (hs 1 (by decide)).1) (by omega) (hs 19 (by decide)).1 (by have := hab; unfold NUL; omega) (by rw [(hs 1 (by decide)).2]; rfl) dX7_init_44 (fun H locs hP hz hS => ?_)
  have eR : (u2 (r_X3_init (u2 (r_X3_init (u2 (r_X3_init (u2 (r_X8_init (u2 R a 0 (a + 1)) (a + 2)) a 1 (a + 2)) (a + 5)) (a + 1) 0 (a + 5)) (a + 12)) (a + 1) 1 (a + 12)) (a + 19)) (a + 1) 2 (a + 19)) a 0 = a + 1 := by rw [u2_n _ _ _ (by omega)]; exact eR
  have hF := hF.upR (k := 2) (v := (a + 19)) (a := (a + 1)) (by omega)
  have hP : va_P D vwCl (wd ce b kdC lnC (a + 26) I L (u2 (r_X3_init (u2 (r_X3_init (u2 (r_X3_init (u2 (r_X8_init (u2 R a 0 (a + 1)) (a + 2)) a 1 (a + 2)) (a + 5)) (a + 1) 0 (a + 5)) (a + 12)) (a + 1) 1 (a + 12)) (a + 19)) (a + 1) 2 (a + 19))) H := hP
  refine lv_iinc (v := (3 : Int32)) (lv' := [(1, .int (3 : Int32)), (0, .ref (b + a))]) hx hb dX7_init_45 hl (k := 0) rfl (by decide) (Nat.le_of_ble_eq_true rfl) rfl (fun ls hl => ?_)
  refine lv_goto (tgt := 27) hx hb dX7_init_48 (by decide) ?_
  refine lv_iload_n hx hb dX7_init_27 rfl (lv_at hl 0 rfl) ?_
  refine lv_iconst (v := (5 : Int32)) hx hb dX7_init_28 (by decide) ?_
  refine lv_icmp_ge (tgt := 51) hx hb dX7_init_29 (by decide) (fun cq => absurd cq (by decide)) (fun cq => ?_)
  refine lv_aload_n hx hb dX7_init_32 rfl (lv_at hl 1 rfl) ?_
  refine mm_getr hx hb hts hown hKK hP fkc7_0 (Nat.le_of_ble_eq_true rfl) lkcX7_11 (by omega) (hs 0 (by decide)).1 (by rw [eR]; have := hab; unfold NUL; omega) dX7_init_33 ?_
  rw [eR]
  refine lv_iload_n hx hb dX7_init_36 rfl (lv_at hl 0 rfl) ?_
  refine mm_new (rest := [.int (3 : Int32), .ref (b + (a + 1))]) (C := RX3) (T := TX3) (N := 2) (ty := tyX3) (n := (a + 26)) hx hb hts hown inGX3 (ci := 3) rfl tyX3_ok ⟨qc109, qc150, qc84⟩ hKK hP hz hS (hs 26 (by decide)).1 hF dfX3 (Nat.le_of_ble_eq_true rfl) (Nat.le_of_ble_eq_true rfl) dX7_init_37 (fun H hP hz hS => ?_)
  have hF := hF.mono (n' := (a + 27)) (Nat.le_succ _)
  have hP : va_P D vwCl (wd ce b kdC lnC (a + 27) I L (u2 (r_X3_init (u2 (r_X3_init (u2 (r_X3_init (u2 (r_X8_init (u2 R a 0 (a + 1)) (a + 2)) a 1 (a + 2)) (a + 5)) (a + 1) 0 (a + 5)) (a + 12)) (a + 1) 1 (a + 12)) (a + 19)) (a + 1) 2 (a + 19))) H := hP
  have hz : H.size = b + (a + 27) := hz
  refine lv_dup hx hb dX7_init_40 rfl ?_
  refine mm_I (rest := [.ref (b + (a + 26)), .int (3 : Int32), .ref (b + (a + 1))]) (rm := rmcX3_init) hx hb hml hown hts hKK hAO hP hz hS hAu (show IOK RX7 26 yX3_init cX3_init 1 0 from ⟨Or.inr (List.mem_of_getElem? (i := 0) rfl), qc152, qc84, qc153, rfl, by decide +kernel⟩) (c_X3_init l D ce b I L (u2 (r_X3_init (u2 (r_X3_init (u2 (r_X3_init (u2 (r_X8_init (u2 R a 0 (a + 1)) (a + 2)) a 1 (a + 2)) (a + 5)) (a + 1) 0 (a + 5)) (a + 12)) (a + 1) 1 (a + 12)) (a + 19)) (a + 1) 2 (a + 19)) (a + 26) (fun j hj => by have h := hs (26 + j) (by omega); rw [← Nat.add_assoc] at h; exact ⟨h.1.trans ((by decide : ∀ j, j < 7 → kdCl.getD (1 + (26 + j)) 0 = kdCl.getD (6 + j) 0) j hj), h.2.trans ((by decide : ∀ j, j < 7 → lnCl.getD (1 + (26 + j)) 0 = lnCl.getD (6 + j) 0) j hj)⟩) hF (by have := hab; omega)) rfl hl.1 rfl (Nat.le_of_ble_eq_true rfl) ⟨rfl, rfl⟩ ⟨Nat.le_of_ble_eq_true rfl, Nat.le_of_ble_eq_true rfl⟩ ⟨Nat.le_of_ble_eq_true rfl, Nat.le_of_ble_eq_true rfl⟩ dX7_init_41 (fun H locs hP hz hS => ?_)
  have hF := fr_X3_init hF
  have eR : (r_X3_init (u2 (r_X3_init (u2 (r_X3_init (u2 (r_X3_init (u2 (r_X8_init (u2 R a 0 (a + 1)) (a + 2)) a 1 (a + 2)) (a + 5)) (a + 1) 0 (a + 5)) (a + 12)) (a + 1) 1 (a + 12)) (a + 19)) (a + 1) 2 (a + 19)) (a + 26)) a 0 = a + 1 := by rw [r_X3_init_lt (by omega)]; exact eR
  have hP : va_P D vwCl (wd ce b kdC lnC (a + 33) I L (r_X3_init (u2 (r_X3_init (u2 (r_X3_init (u2 (r_X3_init (u2 (r_X8_init (u2 R a 0 (a + 1)) (a + 2)) a 1 (a + 2)) (a + 5)) (a + 1) 0 (a + 5)) (a + 12)) (a + 1) 1 (a + 12)) (a + 19)) (a + 1) 2 (a + 19)) (a + 26))) H := hP
  have hz : H.size = b + (a + 33) := hz
  have hF : Fr (a + 33) I L (r_X3_init (u2 (r_X3_init (u2 (r_X3_init (u2 (r_X3_init (u2 (r_X8_init (u2 R a 0 (a + 1)) (a + 2)) a 1 (a + 2)) (a + 5)) (a + 1) 0 (a + 5)) (a + 12)) (a + 1) 1 (a + 12)) (a + 19)) (a + 1) 2 (a + 19)) (a + 26)) := hF
  refine mm_aastN (t0 := 3) (cv := 3) (rr := (RX3, TX3, 2)) hx hb hKK hP hz (hA _) hS (by omega) rfl rfl (fun R => en_4 (hs 1 (by decide)).1) (by omega) (hs 26 (by decide)).1 (by have := hab; unfold NUL; omega) (by rw [(hs 1 (by decide)).2]; rfl) dX7_init_44 (fun H locs hP hz hS => ?_)
  have eR : (u2 (r_X3_init (u2 (r_X3_init (u2 (r_X3_init (u2 (r_X3_init (u2 (r_X8_init (u2 R a 0 (a + 1)) (a + 2)) a 1 (a + 2)) (a + 5)) (a + 1) 0 (a + 5)) (a + 12)) (a + 1) 1 (a + 12)) (a + 19)) (a + 1) 2 (a + 19)) (a + 26)) (a + 1) 3 (a + 26)) a 0 = a + 1 := by rw [u2_n _ _ _ (by omega)]; exact eR
  have hF := hF.upR (k := 3) (v := (a + 26)) (a := (a + 1)) (by omega)
  have hP : va_P D vwCl (wd ce b kdC lnC (a + 33) I L (u2 (r_X3_init (u2 (r_X3_init (u2 (r_X3_init (u2 (r_X3_init (u2 (r_X8_init (u2 R a 0 (a + 1)) (a + 2)) a 1 (a + 2)) (a + 5)) (a + 1) 0 (a + 5)) (a + 12)) (a + 1) 1 (a + 12)) (a + 19)) (a + 1) 2 (a + 19)) (a + 26)) (a + 1) 3 (a + 26))) H := hP
  refine lv_iinc (v := (4 : Int32)) (lv' := [(1, .int (4 : Int32)), (0, .ref (b + a))]) hx hb dX7_init_45 hl (k := 0) rfl (by decide) (Nat.le_of_ble_eq_true rfl) rfl (fun ls hl => ?_)
  refine lv_goto (tgt := 27) hx hb dX7_init_48 (by decide) ?_
  refine lv_iload_n hx hb dX7_init_27 rfl (lv_at hl 0 rfl) ?_
  refine lv_iconst (v := (5 : Int32)) hx hb dX7_init_28 (by decide) ?_
  refine lv_icmp_ge (tgt := 51) hx hb dX7_init_29 (by decide) (fun cq => absurd cq (by decide)) (fun cq => ?_)
  refine lv_aload_n hx hb dX7_init_32 rfl (lv_at hl 1 rfl) ?_
  refine mm_getr hx hb hts hown hKK hP fkc7_0 (Nat.le_of_ble_eq_true rfl) lkcX7_11 (by omega) (hs 0 (by decide)).1 (by rw [eR]; have := hab; unfold NUL; omega) dX7_init_33 ?_
  rw [eR]
  refine lv_iload_n hx hb dX7_init_36 rfl (lv_at hl 0 rfl) ?_
  refine mm_new (rest := [.int (4 : Int32), .ref (b + (a + 1))]) (C := RX3) (T := TX3) (N := 2) (ty := tyX3) (n := (a + 33)) hx hb hts hown inGX3 (ci := 3) rfl tyX3_ok ⟨qc109, qc150, qc84⟩ hKK hP hz hS (hs 33 (by decide)).1 hF dfX3 (Nat.le_of_ble_eq_true rfl) (Nat.le_of_ble_eq_true rfl) dX7_init_37 (fun H hP hz hS => ?_)
  have hF := hF.mono (n' := (a + 34)) (Nat.le_succ _)
  have hP : va_P D vwCl (wd ce b kdC lnC (a + 34) I L (u2 (r_X3_init (u2 (r_X3_init (u2 (r_X3_init (u2 (r_X3_init (u2 (r_X8_init (u2 R a 0 (a + 1)) (a + 2)) a 1 (a + 2)) (a + 5)) (a + 1) 0 (a + 5)) (a + 12)) (a + 1) 1 (a + 12)) (a + 19)) (a + 1) 2 (a + 19)) (a + 26)) (a + 1) 3 (a + 26))) H := hP
  have hz : H.size = b + (a + 34) := hz
  refine lv_dup hx hb dX7_init_40 rfl ?_
  refine mm_I (rest := [.ref (b + (a + 33)), .int (4 : Int32), .ref (b + (a + 1))]) (rm := rmcX3_init) hx hb hml hown hts hKK hAO hP hz hS hAu (show IOK RX7 26 yX3_init cX3_init 1 0 from ⟨Or.inr (List.mem_of_getElem? (i := 0) rfl), qc152, qc84, qc153, rfl, by decide +kernel⟩) (c_X3_init l D ce b I L (u2 (r_X3_init (u2 (r_X3_init (u2 (r_X3_init (u2 (r_X3_init (u2 (r_X8_init (u2 R a 0 (a + 1)) (a + 2)) a 1 (a + 2)) (a + 5)) (a + 1) 0 (a + 5)) (a + 12)) (a + 1) 1 (a + 12)) (a + 19)) (a + 1) 2 (a + 19)) (a + 26)) (a + 1) 3 (a + 26)) (a + 33) (fun j hj => by have h := hs (33 + j) (by omega); rw [← Nat.add_assoc] at h; exact ⟨h.1.trans ((by decide : ∀ j, j < 7 → kdCl.getD (1 + (33 + j)) 0 = kdCl.getD (6 + j) 0) j hj), h.2.trans ((by decide : ∀ j, j < 7 → lnCl.getD (1 + (33 + j)) 0 = lnCl.getD (6 + j) 0) j hj)⟩) hF (by have := hab; omega)) rfl hl.1 rfl (Nat.le_of_ble_eq_true rfl) ⟨rfl, rfl⟩ ⟨Nat.le_of_ble_eq_true rfl, Nat.le_of_ble_eq_true rfl⟩ ⟨Nat.le_of_ble_eq_true rfl, Nat.le_of_ble_eq_true rfl⟩ dX7_init_41 (fun H locs hP hz hS => ?_)
  have hF := fr_X3_init hF
  have eR : (r_X3_init (u2 (r_X3_init (u2 (r_X3_init (u2 (r_X3_init (u2 (r_X3_init (u2 (r_X8_init (u2 R a 0 (a + 1)) (a + 2)) a 1 (a + 2)) (a + 5)) (a + 1) 0 (a + 5)) (a + 12)) (a + 1) 1 (a + 12)) (a + 19)) (a + 1) 2 (a + 19)) (a + 26)) (a + 1) 3 (a + 26)) (a + 33)) a 0 = a + 1 := by rw [r_X3_init_lt (by omega)]; exact eR
  have hP : va_P D vwCl (wd ce b kdC lnC (a + 40) I L (r_X3_init (u2 (r_X3_init (u2 (r_X3_init (u2 (r_X3_init (u2 (r_X3_init (u2 (r_X8_init (u2 R a 0 (a + 1)) (a + 2)) a 1 (a + 2)) (a + 5)) (a + 1) 0 (a + 5)) (a + 12)) (a + 1) 1 (a + 12)) (a + 19)) (a + 1) 2 (a + 19)) (a + 26)) (a + 1) 3 (a + 26)) (a + 33))) H := hP
  have hz : H.size = b + (a + 40) := hz
  have hF : Fr (a + 40) I L (r_X3_init (u2 (r_X3_init (u2 (r_X3_init (u2 (r_X3_init (u2 (r_X3_init (u2 (r_X8_init (u2 R a 0 (a + 1)) (a + 2)) a 1 (a + 2)) (a + 5)) (a + 1) 0 (a + 5)) (a + 12)) (a + 1) 1 (a + 12)) (a + 19)) (a + 1) 2 (a + 19)) (a + 26)) (a + 1) 3 (a + 26)) (a + 33)) := hF
  refine mm_aastN (t0 := 3) (cv := 3) (rr := (RX3, TX3, 2)) hx hb hKK hP hz (hA _) hS (by omega) rfl rfl (fun R => en_4 (hs 1 (by decide)).1) (by omega) (hs 33 (by decide)).1 (by have := hab; unfold NUL; omega) (by rw [(hs 1 (by decide)).2]; rfl) dX7_init_44 (fun H locs hP hz hS => ?_)
  have eR : (u2 (r_X3_init (u2 (r_X3_init (u2 (r_X3_init (u2 (r_X3_init (u2 (r_X3_init (u2 (r_X8_init (u2 R a 0 (a + 1)) (a + 2)) a 1 (a + 2)) (a + 5)) (a + 1) 0 (a + 5)) (a + 12)) (a + 1) 1 (a + 12)) (a + 19)) (a + 1) 2 (a + 19)) (a + 26)) (a + 1) 3 (a + 26)) (a + 33)) (a + 1) 4 (a + 33)) a 0 = a + 1 := by rw [u2_n _ _ _ (by omega)]; exact eR
  have hF := hF.upR (k := 4) (v := (a + 33)) (a := (a + 1)) (by omega)
  have hP : va_P D vwCl (wd ce b kdC lnC (a + 40) I L (u2 (r_X3_init (u2 (r_X3_init (u2 (r_X3_init (u2 (r_X3_init (u2 (r_X3_init (u2 (r_X8_init (u2 R a 0 (a + 1)) (a + 2)) a 1 (a + 2)) (a + 5)) (a + 1) 0 (a + 5)) (a + 12)) (a + 1) 1 (a + 12)) (a + 19)) (a + 1) 2 (a + 19)) (a + 26)) (a + 1) 3 (a + 26)) (a + 33)) (a + 1) 4 (a + 33))) H := hP
  refine lv_iinc (v := (5 : Int32)) (lv' := [(1, .int (5 : Int32)), (0, .ref (b + a))]) hx hb dX7_init_45 hl (k := 0) rfl (by decide) (Nat.le_of_ble_eq_true rfl) rfl (fun ls hl => ?_)
  refine lv_goto (tgt := 27) hx hb dX7_init_48 (by decide) ?_
  refine lv_iload_n hx hb dX7_init_27 rfl (lv_at hl 0 rfl) ?_
  refine lv_iconst (v := (5 : Int32)) hx hb dX7_init_28 (by decide) ?_
  refine lv_icmp_ge (tgt := 51) hx hb dX7_init_29 (by decide) (fun cq => ?_) (fun cq => absurd (by decide) cq)
  refine W.widen (k := 39) (n := 408) (Nat.le_of_ble_eq_true rfl) (Nat.le_of_ble_eq_true rfl) ?_
  exact mm_vretN hx hb hr hlocks hP hz hS dX7_init_51
def rmcX1_init : Room := { frames := 4, cells := 201, slots := 2060, locals := 93 }
def r_X1_init (R : mR) (a : Nat) : mR := u2 (r_X7_init (u2 (r_X7_init (u2 (r_X7_init (u2 (r_X7_init (u2 (r_X7_init (u2 R a 0 (a + 1)) (a + 2)) (a + 1) 0 (a + 2)) (a + 42)) (a + 1) 1 (a + 42)) (a + 82)) (a + 1) 2 (a + 82)) (a + 122)) (a + 1) 3 (a + 122)) (a + 162)) (a + 1) 4 (a + 162)
theorem r_X1_init_lt {R : mR} {a x : Nat} (h : x < a) : r_X1_init R a x = R x := by
  unfold r_X1_init
  rw [u2_n _ _ _ (by omega), r_X7_init_lt (by omega), u2_n _ _ _ (by omega), r_X7_init_lt (by omega), u2_n _ _ _ (by omega), r_X7_init_lt (by omega), u2_n _ _ _ (by omega), r_X7_init_lt (by omega), u2_n _ _ _ (by omega), r_X7_init_lt (by omega), u2_n _ _ _ (by omega)]
theorem fr_X1_init {I : mI} {L : mL} {R : mR} {a : Nat} (hF : Fr (a + 1) I L R) : Fr (a + 202) I L (r_X1_init R a) := by
  unfold r_X1_init
  have hF := hF.mono (n' := a + 2) (by omega)
  have hF := hF.upR (k := 0) (v := (a + 1)) (a := a) (by omega)
  have hF := hF.mono (n' := a + 3) (by omega)
  have hF := fr_X7_init (a := (a + 2)) hF
  have hF : Fr (a + 42) _ _ _ := hF
  have hF := hF.upR (k := 0) (v := (a + 2)) (a := (a + 1)) (by omega)
  have hF := hF.mono (n' := a + 43) (by omega)
  have hF := fr_X7_init (a := (a + 42)) hF
  have hF : Fr (a + 82) _ _ _ := hF
  have hF := hF.upR (k := 1) (v := (a + 42)) (a := (a + 1)) (by omega)
  have hF := hF.mono (n' := a + 83) (by omega)
  have hF := fr_X7_init (a := (a + 82)) hF
  have hF : Fr (a + 122) _ _ _ := hF
  have hF := hF.upR (k := 2) (v := (a + 82)) (a := (a + 1)) (by omega)
  have hF := hF.mono (n' := a + 123) (by omega)
  have hF := fr_X7_init (a := (a + 122)) hF
  have hF : Fr (a + 162) _ _ _ := hF
  have hF := hF.upR (k := 3) (v := (a + 122)) (a := (a + 1)) (by omega)
  have hF := hF.mono (n' := a + 163) (by omega)
  have hF := fr_X7_init (a := (a + 162)) hF
  have hF : Fr (a + 202) _ _ _ := hF
  have hF := hF.upR (k := 4) (v := (a + 162)) (a := (a + 1)) (by omega)
  exact hF.mono (by omega)
set_option maxHeartbeats 8000000 in
set_option maxRecDepth 100000 in
theorem c_X1_init (l : Launch) (D : va_G) (ce : Nat → ClassId) (b : Nat) (I : mI) (L : mL) (R : mR) (a : Nat) (hs : ∀ j, j < 202 → kdC (a + j) = kdCl.getD (41 + j) 0 ∧ lnC (a + j) = lnCl.getD (41 + j) 0) (hF : Fr (a + 1) I L R) (hab : a + 202 ≤ 5000) : Met l yX1_init (Cond.code yX1_init cX1_init 2 none :: GW) rmcX1_init (va_Pc [.ref (b + a)] (PN D ce b kdC lnC (a + 1) I L R)) (va_Qv (fun u => u = (I, L, r_X1_init R a)) (QN D ce b kdC lnC (a + 202)) (upA b)) 201 2060 (upA b) := by
  refine Met.ofW (cc := cX1_init) (maxL := 2) (ret := none) (by decide) rfl ?_
  intro p e s m args below meth c s₁ B hml hv
  obtain ⟨rfl, hP, hKK, hz, hAO⟩ := hv
  have hx := B.exec
  have hb := B.bytes
  have hr := B.returns
  have hts0 := atoms_spec (ws := Cond.code yX1_init cX1_init 2 none :: GW) B.pre
  have hts : ∀ w ∈ GW, w.before _ s = true := fun w h => hts0 w (List.mem_cons_of_mem _ h)
  clear hts0
  have hown : s.vm.findClass RX1 = some m.cls := findClass_of_methodNamed B.named
  have hlocks := B.notSynchronized
  have hin : meth.name = "<init>" := (name_of_methodNamed B.named B.method).1
  have hA : ∀ n q, box b n q → upA b q := fun _ _ h => h.1
  have hAu : ∀ q, upA b q → upA b q := fun _ h => h
  have hS : va_S (upA b) s.heap s.heap [] := va_S.rf
  have hl := lv_entry ([.ref (b + a)]) (n := 2) (Nat.le_of_ble_eq_true rfl)
  rw [lg_entry_eq]
  generalize (lg_sl ([.ref (b + a)]) ++ List.replicate (2 - (lg_sl ([.ref (b + a)])).length) Slot.unset).toArray = ls at hl ⊢
  have hl : lv_has ls 2 [(0, .ref (b + a))] := hl
  generalize ([.ref (b + a)] : List Value).toArray = av at hts ⊢
  show W p l e rmcX1_init s m av below meth c s.heap [] 0 0 _ _
  refine lv_aload_n hx hb dX1_init_0 rfl (lv_at hl 0 rfl) ?_
  refine W.objInit hx hb hown (hts _ qc202) (hts _ qc101) (hts _ qc102) rfl (by rw [hml]; exact hl.1) rfl dX1_init_1 (Nat.le_of_ble_eq_true rfl) (Nat.le_of_ble_eq_true rfl) ?_
  refine W.eq (g2 := F0 m 4 ls []) rfl ?_
  refine lv_aload_n hx hb dX1_init_4 rfl (lv_at hl 0 rfl) ?_
  refine lv_iconst (v := (5 : Int32)) hx hb dX1_init_5 (by decide) ?_
  refine mm_newr (C := RX7) (t0 := 4) (rest := [.ref (b + a)]) (n := (a + 1)) hx hb hts hown qc203 hAO.2 hKK hP hz hS rfl (en_5 (hs 1 (by decide)).1) (by decide) (by rw [(hs 1 (by decide)).2]; rfl) (by rw [(hs 1 (by decide)).2]; decide) hF (Nat.le_of_ble_eq_true rfl) (by rw [(hs 1 (by decide)).2]; exact Nat.le_of_ble_eq_true rfl) dX1_init_6 (fun H hP hz hS => ?_)
  rw [(hs 1 (by decide)).2]
  have hF := hF.mono (n' := (a + 2)) (Nat.le_succ _)
  have hP : va_P D vwCl (wd ce b kdC lnC (a + 2) I L (R)) H := hP
  have hz : H.size = b + (a + 2) := hz
  refine mm_putF (ty := .array (.object "FallingRules$State")) hx hb hts hown hKK hP (hA _) hS fkc1_0 (Nat.le_of_ble_eq_true rfl) ⟨tyX1_ok, nmX1, rfl, tyX1_ok 0 (by decide)⟩ lkcX1_11 hin rfl (by omega) (hs 0 (by decide)).1 (by have := hab; unfold NUL; omega) rfl rfl dX1_init_9 (fun H locs hP hz1 hS => ?_)
  have hz : H.size = b + (a + 2) := hz1.trans hz
  have hF := hF.upR (k := 0) (v := (a + 1)) (a := a) (by omega)
  have eR : (u2 R a 0 (a + 1)) a 0 = a + 1 := by rw [u2_s, va_up_s]
  have hP : va_P D vwCl (wd ce b kdC lnC (a + 2) I L (u2 R a 0 (a + 1))) H := hP
  refine lv_iconst (v := (0 : Int32)) hx hb dX1_init_12 (by decide) ?_
  refine lv_istore_n (lv' := [(1, .int (0 : Int32)), (0, .ref (b + a))]) hx hb dX1_init_13 rfl hl (Nat.le_of_ble_eq_true rfl) rfl (fun ls hl => ?_)
  refine lv_iload_n hx hb dX1_init_14 rfl (lv_at hl 0 rfl) ?_
  refine lv_iconst (v := (5 : Int32)) hx hb dX1_init_15 (by decide) ?_
  refine lv_icmp_ge (tgt := 38) hx hb dX1_init_16 (by decide) (fun cq => absurd cq (by decide)) (fun cq => ?_)
  refine lv_aload_n hx hb dX1_init_19 rfl (lv_at hl 1 rfl) ?_
  refine mm_getr hx hb hts hown hKK hP fkc1_0 (Nat.le_of_ble_eq_true rfl) lkcX1_11 (by omega) (hs 0 (by decide)).1 (by rw [eR]; have := hab; unfold NUL; omega) dX1_init_20 ?_
  rw [eR]
  refine lv_iload_n hx hb dX1_init_23 rfl (lv_at hl 0 rfl) ?_
  refine mm_new (rest := [.int (0 : Int32), .ref (b + (a + 1))]) (C := RX7) (T := TX7) (N := 3) (ty := tyX7) (n := (a + 2)) hx hb hts hown inGX7 (ci := 7) rfl tyX7_ok ⟨qc203, qc104, qc81⟩ hKK hP hz hS (hs 2 (by decide)).1 hF dfX7 (Nat.le_of_ble_eq_true rfl) (Nat.le_of_ble_eq_true rfl) dX1_init_24 (fun H hP hz hS => ?_)
  have hF := hF.mono (n' := (a + 3)) (Nat.le_succ _)
  have hP : va_P D vwCl (wd ce b kdC lnC (a + 3) I L (u2 R a 0 (a + 1))) H := hP
  have hz : H.size = b + (a + 3) := hz
  refine lv_dup hx hb dX1_init_27 rfl ?_
  refine mm_I (rest := [.ref (b + (a + 2)), .int (0 : Int32), .ref (b + (a + 1))]) (rm := rmcX7_init) hx hb hml hown hts hKK hAO hP hz hS hAu (show IOK RX1 17 yX7_init cX7_init 2 0 from ⟨Or.inl qc205, qc106, qc81, qc107, rfl, by decide +kernel⟩) (c_X7_init l D ce b I L (u2 R a 0 (a + 1)) (a + 2) (fun j hj => by have h := hs (2 + j) (by omega); rw [← Nat.add_assoc] at h; exact ⟨h.1.trans ((by decide : ∀ j, j < 40 → kdCl.getD (41 + (2 + j)) 0 = kdCl.getD (1 + j) 0) j hj), h.2.trans ((by decide : ∀ j, j < 40 → lnCl.getD (41 + (2 + j)) 0 = lnCl.getD (1 + j) 0) j hj)⟩) hF (by have := hab; omega)) rfl hl.1 rfl (Nat.le_of_ble_eq_true rfl) ⟨rfl, rfl⟩ ⟨Nat.le_of_ble_eq_true rfl, Nat.le_of_ble_eq_true rfl⟩ ⟨Nat.le_of_ble_eq_true rfl, Nat.le_of_ble_eq_true rfl⟩ dX1_init_28 (fun H locs hP hz hS => ?_)
  have hF := fr_X7_init hF
  have eR : (r_X7_init (u2 R a 0 (a + 1)) (a + 2)) a 0 = a + 1 := by rw [r_X7_init_lt (by omega)]; exact eR
  have hP : va_P D vwCl (wd ce b kdC lnC (a + 42) I L (r_X7_init (u2 R a 0 (a + 1)) (a + 2))) H := hP
  have hz : H.size = b + (a + 42) := hz
  have hF : Fr (a + 42) I L (r_X7_init (u2 R a 0 (a + 1)) (a + 2)) := hF
  refine mm_aastN (t0 := 4) (cv := 7) (rr := (RX7, TX7, 3)) hx hb hKK hP hz (hA _) hS (by omega) rfl rfl (fun R => en_5 (hs 1 (by decide)).1) (by omega) (hs 2 (by decide)).1 (by have := hab; unfold NUL; omega) (by rw [(hs 1 (by decide)).2]; rfl) dX1_init_31 (fun H locs hP hz hS => ?_)
  have eR : (u2 (r_X7_init (u2 R a 0 (a + 1)) (a + 2)) (a + 1) 0 (a + 2)) a 0 = a + 1 := by rw [u2_n _ _ _ (by omega)]; exact eR
  have hF := hF.upR (k := 0) (v := (a + 2)) (a := (a + 1)) (by omega)
  have hP : va_P D vwCl (wd ce b kdC lnC (a + 42) I L (u2 (r_X7_init (u2 R a 0 (a + 1)) (a + 2)) (a + 1) 0 (a + 2))) H := hP
  refine lv_iinc (v := (1 : Int32)) (lv' := [(1, .int (1 : Int32)), (0, .ref (b + a))]) hx hb dX1_init_32 hl (k := 0) rfl (by decide) (Nat.le_of_ble_eq_true rfl) rfl (fun ls hl => ?_)
  refine lv_goto (tgt := 14) hx hb dX1_init_35 (by decide) ?_
  refine lv_iload_n hx hb dX1_init_14 rfl (lv_at hl 0 rfl) ?_
  refine lv_iconst (v := (5 : Int32)) hx hb dX1_init_15 (by decide) ?_
  refine lv_icmp_ge (tgt := 38) hx hb dX1_init_16 (by decide) (fun cq => absurd cq (by decide)) (fun cq => ?_)
  refine lv_aload_n hx hb dX1_init_19 rfl (lv_at hl 1 rfl) ?_
  refine mm_getr hx hb hts hown hKK hP fkc1_0 (Nat.le_of_ble_eq_true rfl) lkcX1_11 (by omega) (hs 0 (by decide)).1 (by rw [eR]; have := hab; unfold NUL; omega) dX1_init_20 ?_
  rw [eR]
  refine lv_iload_n hx hb dX1_init_23 rfl (lv_at hl 0 rfl) ?_
  refine mm_new (rest := [.int (1 : Int32), .ref (b + (a + 1))]) (C := RX7) (T := TX7) (N := 3) (ty := tyX7) (n := (a + 42)) hx hb hts hown inGX7 (ci := 7) rfl tyX7_ok ⟨qc203, qc104, qc81⟩ hKK hP hz hS (hs 42 (by decide)).1 hF dfX7 (Nat.le_of_ble_eq_true rfl) (Nat.le_of_ble_eq_true rfl) dX1_init_24 (fun H hP hz hS => ?_)
  have hF := hF.mono (n' := (a + 43)) (Nat.le_succ _)
  have hP : va_P D vwCl (wd ce b kdC lnC (a + 43) I L (u2 (r_X7_init (u2 R a 0 (a + 1)) (a + 2)) (a + 1) 0 (a + 2))) H := hP
  have hz : H.size = b + (a + 43) := hz
  refine lv_dup hx hb dX1_init_27 rfl ?_
  refine mm_I (rest := [.ref (b + (a + 42)), .int (1 : Int32), .ref (b + (a + 1))]) (rm := rmcX7_init) hx hb hml hown hts hKK hAO hP hz hS hAu (show IOK RX1 17 yX7_init cX7_init 2 0 from ⟨Or.inl qc205, qc106, qc81, qc107, rfl, by decide +kernel⟩) (c_X7_init l D ce b I L (u2 (r_X7_init (u2 R a 0 (a + 1)) (a + 2)) (a + 1) 0 (a + 2)) (a + 42) (fun j hj => by have h := hs (42 + j) (by omega); rw [← Nat.add_assoc] at h; exact ⟨h.1.trans ((by decide : ∀ j, j < 40 → kdCl.getD (41 + (42 + j)) 0 = kdCl.getD (1 + j) 0) j hj), h.2.trans ((by decide : ∀ j, j < 40 → lnCl.getD (41 + (42 + j)) 0 = lnCl.getD (1 + j) 0) j hj)⟩) hF (by have := hab; omega)) rfl hl.1 rfl (Nat.le_of_ble_eq_true rfl) ⟨rfl, rfl⟩ ⟨Nat.le_of_ble_eq_true rfl, Nat.le_of_ble_eq_true rfl⟩ ⟨Nat.le_of_ble_eq_true rfl, Nat.le_of_ble_eq_true rfl⟩ dX1_init_28 (fun H locs hP hz hS => ?_)
  have hF := fr_X7_init hF
  have eR : (r_X7_init (u2 (r_X7_init (u2 R a 0 (a + 1)) (a + 2)) (a + 1) 0 (a + 2)) (a + 42)) a 0 = a + 1 := by rw [r_X7_init_lt (by omega)]; exact eR
  have hP : va_P D vwCl (wd ce b kdC lnC (a + 82) I L (r_X7_init (u2 (r_X7_init (u2 R a 0 (a + 1)) (a + 2)) (a + 1) 0 (a + 2)) (a + 42))) H := hP
  have hz : H.size = b + (a + 82) := hz
  have hF : Fr (a + 82) I L (r_X7_init (u2 (r_X7_init (u2 R a 0 (a + 1)) (a + 2)) (a + 1) 0 (a + 2)) (a + 42)) := hF
  refine mm_aastN (t0 := 4) (cv := 7) (rr := (RX7, TX7, 3)) hx hb hKK hP hz (hA _) hS (by omega) rfl rfl (fun R => en_5 (hs 1 (by decide)).1) (by omega) (hs 42 (by decide)).1 (by have := hab; unfold NUL; omega) (by rw [(hs 1 (by decide)).2]; rfl) dX1_init_31 (fun H locs hP hz hS => ?_)
  have eR : (u2 (r_X7_init (u2 (r_X7_init (u2 R a 0 (a + 1)) (a + 2)) (a + 1) 0 (a + 2)) (a + 42)) (a + 1) 1 (a + 42)) a 0 = a + 1 := by rw [u2_n _ _ _ (by omega)]; exact eR
  have hF := hF.upR (k := 1) (v := (a + 42)) (a := (a + 1)) (by omega)
  have hP : va_P D vwCl (wd ce b kdC lnC (a + 82) I L (u2 (r_X7_init (u2 (r_X7_init (u2 R a 0 (a + 1)) (a + 2)) (a + 1) 0 (a + 2)) (a + 42)) (a + 1) 1 (a + 42))) H := hP
  refine lv_iinc (v := (2 : Int32)) (lv' := [(1, .int (2 : Int32)), (0, .ref (b + a))]) hx hb dX1_init_32 hl (k := 0) rfl (by decide) (Nat.le_of_ble_eq_true rfl) rfl (fun ls hl => ?_)
  refine lv_goto (tgt := 14) hx hb dX1_init_35 (by decide) ?_
  refine lv_iload_n hx hb dX1_init_14 rfl (lv_at hl 0 rfl) ?_
  refine lv_iconst (v := (5 : Int32)) hx hb dX1_init_15 (by decide) ?_
  refine lv_icmp_ge (tgt := 38) hx hb dX1_init_16 (by decide) (fun cq => absurd cq (by decide)) (fun cq => ?_)
  refine lv_aload_n hx hb dX1_init_19 rfl (lv_at hl 1 rfl) ?_
  refine mm_getr hx hb hts hown hKK hP fkc1_0 (Nat.le_of_ble_eq_true rfl) lkcX1_11 (by omega) (hs 0 (by decide)).1 (by rw [eR]; have := hab; unfold NUL; omega) dX1_init_20 ?_
  rw [eR]
  refine lv_iload_n hx hb dX1_init_23 rfl (lv_at hl 0 rfl) ?_
  refine mm_new (rest := [.int (2 : Int32), .ref (b + (a + 1))]) (C := RX7) (T := TX7) (N := 3) (ty := tyX7) (n := (a + 82)) hx hb hts hown inGX7 (ci := 7) rfl tyX7_ok ⟨qc203, qc104, qc81⟩ hKK hP hz hS (hs 82 (by decide)).1 hF dfX7 (Nat.le_of_ble_eq_true rfl) (Nat.le_of_ble_eq_true rfl) dX1_init_24 (fun H hP hz hS => ?_)
  have hF := hF.mono (n' := (a + 83)) (Nat.le_succ _)
  have hP : va_P D vwCl (wd ce b kdC lnC (a + 83) I L (u2 (r_X7_init (u2 (r_X7_init (u2 R a 0 (a + 1)) (a + 2)) (a + 1) 0 (a + 2)) (a + 42)) (a + 1) 1 (a + 42))) H := hP
  have hz : H.size = b + (a + 83) := hz
  refine lv_dup hx hb dX1_init_27 rfl ?_
  refine mm_I (rest := [.ref (b + (a + 82)), .int (2 : Int32), .ref (b + (a + 1))]) (rm := rmcX7_init) hx hb hml hown hts hKK hAO hP hz hS hAu (show IOK RX1 17 yX7_init cX7_init 2 0 from ⟨Or.inl qc205, qc106, qc81, qc107, rfl, by decide +kernel⟩) (c_X7_init l D ce b I L (u2 (r_X7_init (u2 (r_X7_init (u2 R a 0 (a + 1)) (a + 2)) (a + 1) 0 (a + 2)) (a + 42)) (a + 1) 1 (a + 42)) (a + 82) (fun j hj => by have h := hs (82 + j) (by omega); rw [← Nat.add_assoc] at h; exact ⟨h.1.trans ((by decide : ∀ j, j < 40 → kdCl.getD (41 + (82 + j)) 0 = kdCl.getD (1 + j) 0) j hj), h.2.trans ((by decide : ∀ j, j < 40 → lnCl.getD (41 + (82 + j)) 0 = lnCl.getD (1 + j) 0) j hj)⟩) hF (by have := hab; omega)) rfl hl.1 rfl (Nat.le_of_ble_eq_true rfl) ⟨rfl, rfl⟩ ⟨Nat.le_of_ble_eq_true rfl, Nat.le_of_ble_eq_true rfl⟩ ⟨Nat.le_of_ble_eq_true rfl, Nat.le_of_ble_eq_true rfl⟩ dX1_init_28 (fun H locs hP hz hS => ?_)
  have hF := fr_X7_init hF
  have eR : (r_X7_init (u2 (r_X7_init (u2 (r_X7_init (u2 R a 0 (a + 1)) (a + 2)) (a + 1) 0 (a + 2)) (a + 42)) (a + 1) 1 (a + 42)) (a + 82)) a 0 = a + 1 := by rw [r_X7_init_lt (by omega)]; exact eR
  have hP : va_P D vwCl (wd ce b kdC lnC (a + 122) I L (r_X7_init (u2 (r_X7_init (u2 (r_X7_init (u2 R a 0 (a + 1)) (a + 2)) (a + 1) 0 (a + 2)) (a + 42)) (a + 1) 1 (a + 42)) (a + 82))) H := hP
  have hz : H.size = b + (a + 122) := hz
  have hF : Fr (a + 122) I L (r_X7_init (u2 (r_X7_init (u2 (r_X7_init (u2 R a 0 (a + 1)) (a + 2)) (a + 1) 0 (a + 2)) (a + 42)) (a + 1) 1 (a + 42)) (a + 82)) := hF
  refine mm_aastN (t0 := 4) (cv := 7) (rr := (RX7, TX7, 3)) hx hb hKK hP hz (hA _) hS (by omega) rfl rfl (fun R => en_5 (hs 1 (by decide)).1) (by omega) (hs 82 (by decide)).1 (by have := hab; unfold NUL; omega) (by rw [(hs 1 (by decide)).2]; rfl) dX1_init_31 (fun H locs hP hz hS => ?_)
  have eR : (u2 (r_X7_init (u2 (r_X7_init (u2 (r_X7_init (u2 R a 0 (a + 1)) (a + 2)) (a + 1) 0 (a + 2)) (a + 42)) (a + 1) 1 (a + 42)) (a + 82)) (a + 1) 2 (a + 82)) a 0 = a + 1 := by rw [u2_n _ _ _ (by omega)]; exact eR
  have hF := hF.upR (k := 2) (v := (a + 82)) (a := (a + 1)) (by omega)
  have hP : va_P D vwCl (wd ce b kdC lnC (a + 122) I L (u2 (r_X7_init (u2 (r_X7_init (u2 (r_X7_init (u2 R a 0 (a + 1)) (a + 2)) (a + 1) 0 (a + 2)) (a + 42)) (a + 1) 1 (a + 42)) (a + 82)) (a + 1) 2 (a + 82))) H := hP
  refine lv_iinc (v := (3 : Int32)) (lv' := [(1, .int (3 : Int32)), (0, .ref (b + a))]) hx hb dX1_init_32 hl (k := 0) rfl (by decide) (Nat.le_of_ble_eq_true rfl) rfl (fun ls hl => ?_)
  refine lv_goto (tgt := 14) hx hb dX1_init_35 (by decide) ?_
  refine lv_iload_n hx hb dX1_init_14 rfl (lv_at hl 0 rfl) ?_
  refine lv_iconst (v := (5 : Int32)) hx hb dX1_init_15 (by decide) ?_
  refine lv_icmp_ge (tgt := 38) hx hb dX1_init_16 (by decide) (fun cq => absurd cq (by decide)) (fun cq => ?_)
  refine lv_aload_n hx hb dX1_init_19 rfl (lv_at hl 1 rfl) ?_
  refine mm_getr hx hb hts hown hKK hP fkc1_0 (Nat.le_of_ble_eq_true rfl) lkcX1_11 (by omega) (hs 0 (by decide)).1 (by rw [eR]; have := hab; unfold NUL; omega) dX1_init_20 ?_
  rw [eR]
  refine lv_iload_n hx hb dX1_init_23 rfl (lv_at hl 0 rfl) ?_
  refine mm_new (rest := [.int (3 : Int32), .ref (b + (a + 1))]) (C := RX7) (T := TX7) (N := 3) (ty := tyX7) (n := (a + 122)) hx hb hts hown inGX7 (ci := 7) rfl tyX7_ok ⟨qc203, qc104, qc81⟩ hKK hP hz hS (hs 122 (by decide)).1 hF dfX7 (Nat.le_of_ble_eq_true rfl) (Nat.le_of_ble_eq_true rfl) dX1_init_24 (fun H hP hz hS => ?_)
  have hF := hF.mono (n' := (a + 123)) (Nat.le_succ _)
  have hP : va_P D vwCl (wd ce b kdC lnC (a + 123) I L (u2 (r_X7_init (u2 (r_X7_init (u2 (r_X7_init (u2 R a 0 (a + 1)) (a + 2)) (a + 1) 0 (a + 2)) (a + 42)) (a + 1) 1 (a + 42)) (a + 82)) (a + 1) 2 (a + 82))) H := hP
  have hz : H.size = b + (a + 123) := hz
  refine lv_dup hx hb dX1_init_27 rfl ?_
  refine mm_I (rest := [.ref (b + (a + 122)), .int (3 : Int32), .ref (b + (a + 1))]) (rm := rmcX7_init) hx hb hml hown hts hKK hAO hP hz hS hAu (show IOK RX1 17 yX7_init cX7_init 2 0 from ⟨Or.inl qc205, qc106, qc81, qc107, rfl, by decide +kernel⟩) (c_X7_init l D ce b I L (u2 (r_X7_init (u2 (r_X7_init (u2 (r_X7_init (u2 R a 0 (a + 1)) (a + 2)) (a + 1) 0 (a + 2)) (a + 42)) (a + 1) 1 (a + 42)) (a + 82)) (a + 1) 2 (a + 82)) (a + 122) (fun j hj => by have h := hs (122 + j) (by omega); rw [← Nat.add_assoc] at h; exact ⟨h.1.trans ((by decide : ∀ j, j < 40 → kdCl.getD (41 + (122 + j)) 0 = kdCl.getD (1 + j) 0) j hj), h.2.trans ((by decide : ∀ j, j < 40 → lnCl.getD (41 + (122 + j)) 0 = lnCl.getD (1 + j) 0) j hj)⟩) hF (by have := hab; omega)) rfl hl.1 rfl (Nat.le_of_ble_eq_true rfl) ⟨rfl, rfl⟩ ⟨Nat.le_of_ble_eq_true rfl, Nat.le_of_ble_eq_true rfl⟩ ⟨Nat.le_of_ble_eq_true rfl, Nat.le_of_ble_eq_true rfl⟩ dX1_init_28 (fun H locs hP hz hS => ?_)
  have hF := fr_X7_init hF
  have eR : (r_X7_init (u2 (r_X7_init (u2 (r_X7_init (u2 (r_X7_init (u2 R a 0 (a + 1)) (a + 2)) (a + 1) 0 (a + 2)) (a + 42)) (a + 1) 1 (a + 42)) (a + 82)) (a + 1) 2 (a + 82)) (a + 122)) a 0 = a + 1 := by rw [r_X7_init_lt (by omega)]; exact eR
  have hP : va_P D vwCl (wd ce b kdC lnC (a + 162) I L (r_X7_init (u2 (r_X7_init (u2 (r_X7_init (u2 (r_X7_init (u2 R a 0 (a + 1)) (a + 2)) (a + 1) 0 (a + 2)) (a + 42)) (a + 1) 1 (a + 42)) (a + 82)) (a + 1) 2 (a + 82)) (a + 122))) H := hP
  have hz : H.size = b + (a + 162) := hz
  have hF : Fr (a + 162) I L (r_X7_init (u2 (r_X7_init (u2 (r_X7_init (u2 (r_X7_init (u2 R a 0 (a + 1)) (a + 2)) (a + 1) 0 (a + 2)) (a + 42)) (a + 1) 1 (a + 42)) (a + 82)) (a + 1) 2 (a + 82)) (a + 122)) := hF
  refine mm_aastN (t0 := 4) (cv := 7) (rr := (RX7, TX7, 3)) hx hb hKK hP hz (hA _) hS (by omega) rfl rfl (fun R => en_5 (hs 1 (by decide)).1) (by omega) (hs 122 (by decide)).1 (by have := hab; unfold NUL; omega) (by rw [(hs 1 (by decide)).2]; rfl) dX1_init_31 (fun H locs hP hz hS => ?_)
  have eR : (u2 (r_X7_init (u2 (r_X7_init (u2 (r_X7_init (u2 (r_X7_init (u2 R a 0 (a + 1)) (a + 2)) (a + 1) 0 (a + 2)) (a + 42)) (a + 1) 1 (a + 42)) (a + 82)) (a + 1) 2 (a + 82)) (a + 122)) (a + 1) 3 (a + 122)) a 0 = a + 1 := by rw [u2_n _ _ _ (by omega)]; exact eR
  have hF := hF.upR (k := 3) (v := (a + 122)) (a := (a + 1)) (by omega)
  have hP : va_P D vwCl (wd ce b kdC lnC (a + 162) I L (u2 (r_X7_init (u2 (r_X7_init (u2 (r_X7_init (u2 (r_X7_init (u2 R a 0 (a + 1)) (a + 2)) (a + 1) 0 (a + 2)) (a + 42)) (a + 1) 1 (a + 42)) (a + 82)) (a + 1) 2 (a + 82)) (a + 122)) (a + 1) 3 (a + 122))) H := hP
  refine lv_iinc (v := (4 : Int32)) (lv' := [(1, .int (4 : Int32)), (0, .ref (b + a))]) hx hb dX1_init_32 hl (k := 0) rfl (by decide) (Nat.le_of_ble_eq_true rfl) rfl (fun ls hl => ?_)
  refine lv_goto (tgt := 14) hx hb dX1_init_35 (by decide) ?_
  refine lv_iload_n hx hb dX1_init_14 rfl (lv_at hl 0 rfl) ?_
  refine lv_iconst (v := (5 : Int32)) hx hb dX1_init_15 (by decide) ?_
  refine lv_icmp_ge (tgt := 38) hx hb dX1_init_16 (by decide) (fun cq => absurd cq (by decide)) (fun cq => ?_)
  refine lv_aload_n hx hb dX1_init_19 rfl (lv_at hl 1 rfl) ?_
  refine mm_getr hx hb hts hown hKK hP fkc1_0 (Nat.le_of_ble_eq_true rfl) lkcX1_11 (by omega) (hs 0 (by decide)).1 (by rw [eR]; have := hab; unfold NUL; omega) dX1_init_20 ?_
  rw [eR]
  refine lv_iload_n hx hb dX1_init_23 rfl (lv_at hl 0 rfl) ?_
  refine mm_new (rest := [.int (4 : Int32), .ref (b + (a + 1))]) (C := RX7) (T := TX7) (N := 3) (ty := tyX7) (n := (a + 162)) hx hb hts hown inGX7 (ci := 7) rfl tyX7_ok ⟨qc203, qc104, qc81⟩ hKK hP hz hS (hs 162 (by decide)).1 hF dfX7 (Nat.le_of_ble_eq_true rfl) (Nat.le_of_ble_eq_true rfl) dX1_init_24 (fun H hP hz hS => ?_)
  have hF := hF.mono (n' := (a + 163)) (Nat.le_succ _)
  have hP : va_P D vwCl (wd ce b kdC lnC (a + 163) I L (u2 (r_X7_init (u2 (r_X7_init (u2 (r_X7_init (u2 (r_X7_init (u2 R a 0 (a + 1)) (a + 2)) (a + 1) 0 (a + 2)) (a + 42)) (a + 1) 1 (a + 42)) (a + 82)) (a + 1) 2 (a + 82)) (a + 122)) (a + 1) 3 (a + 122))) H := hP
  have hz : H.size = b + (a + 163) := hz
  refine lv_dup hx hb dX1_init_27 rfl ?_
  refine mm_I (rest := [.ref (b + (a + 162)), .int (4 : Int32), .ref (b + (a + 1))]) (rm := rmcX7_init) hx hb hml hown hts hKK hAO hP hz hS hAu (show IOK RX1 17 yX7_init cX7_init 2 0 from ⟨Or.inl qc205, qc106, qc81, qc107, rfl, by decide +kernel⟩) (c_X7_init l D ce b I L (u2 (r_X7_init (u2 (r_X7_init (u2 (r_X7_init (u2 (r_X7_init (u2 R a 0 (a + 1)) (a + 2)) (a + 1) 0 (a + 2)) (a + 42)) (a + 1) 1 (a + 42)) (a + 82)) (a + 1) 2 (a + 82)) (a + 122)) (a + 1) 3 (a + 122)) (a + 162) (fun j hj => by have h := hs (162 + j) (by omega); rw [← Nat.add_assoc] at h; exact ⟨h.1.trans ((by decide : ∀ j, j < 40 → kdCl.getD (41 + (162 + j)) 0 = kdCl.getD (1 + j) 0) j hj), h.2.trans ((by decide : ∀ j, j < 40 → lnCl.getD (41 + (162 + j)) 0 = lnCl.getD (1 + j) 0) j hj)⟩) hF (by have := hab; omega)) rfl hl.1 rfl (Nat.le_of_ble_eq_true rfl) ⟨rfl, rfl⟩ ⟨Nat.le_of_ble_eq_true rfl, Nat.le_of_ble_eq_true rfl⟩ ⟨Nat.le_of_ble_eq_true rfl, Nat.le_of_ble_eq_true rfl⟩ dX1_init_28 (fun H locs hP hz hS => ?_)
  have hF := fr_X7_init hF
  have eR : (r_X7_init (u2 (r_X7_init (u2 (r_X7_init (u2 (r_X7_init (u2 (r_X7_init (u2 R a 0 (a + 1)) (a + 2)) (a + 1) 0 (a + 2)) (a + 42)) (a + 1) 1 (a + 42)) (a + 82)) (a + 1) 2 (a + 82)) (a + 122)) (a + 1) 3 (a + 122)) (a + 162)) a 0 = a + 1 := by rw [r_X7_init_lt (by omega)]; exact eR
  have hP : va_P D vwCl (wd ce b kdC lnC (a + 202) I L (r_X7_init (u2 (r_X7_init (u2 (r_X7_init (u2 (r_X7_init (u2 (r_X7_init (u2 R a 0 (a + 1)) (a + 2)) (a + 1) 0 (a + 2)) (a + 42)) (a + 1) 1 (a + 42)) (a + 82)) (a + 1) 2 (a + 82)) (a + 122)) (a + 1) 3 (a + 122)) (a + 162))) H := hP
  have hz : H.size = b + (a + 202) := hz
  have hF : Fr (a + 202) I L (r_X7_init (u2 (r_X7_init (u2 (r_X7_init (u2 (r_X7_init (u2 (r_X7_init (u2 R a 0 (a + 1)) (a + 2)) (a + 1) 0 (a + 2)) (a + 42)) (a + 1) 1 (a + 42)) (a + 82)) (a + 1) 2 (a + 82)) (a + 122)) (a + 1) 3 (a + 122)) (a + 162)) := hF
  refine mm_aastN (t0 := 4) (cv := 7) (rr := (RX7, TX7, 3)) hx hb hKK hP hz (hA _) hS (by omega) rfl rfl (fun R => en_5 (hs 1 (by decide)).1) (by omega) (hs 162 (by decide)).1 (by have := hab; unfold NUL; omega) (by rw [(hs 1 (by decide)).2]; rfl) dX1_init_31 (fun H locs hP hz hS => ?_)
  have eR : (u2 (r_X7_init (u2 (r_X7_init (u2 (r_X7_init (u2 (r_X7_init (u2 (r_X7_init (u2 R a 0 (a + 1)) (a + 2)) (a + 1) 0 (a + 2)) (a + 42)) (a + 1) 1 (a + 42)) (a + 82)) (a + 1) 2 (a + 82)) (a + 122)) (a + 1) 3 (a + 122)) (a + 162)) (a + 1) 4 (a + 162)) a 0 = a + 1 := by rw [u2_n _ _ _ (by omega)]; exact eR
  have hF := hF.upR (k := 4) (v := (a + 162)) (a := (a + 1)) (by omega)
  have hP : va_P D vwCl (wd ce b kdC lnC (a + 202) I L (u2 (r_X7_init (u2 (r_X7_init (u2 (r_X7_init (u2 (r_X7_init (u2 (r_X7_init (u2 R a 0 (a + 1)) (a + 2)) (a + 1) 0 (a + 2)) (a + 42)) (a + 1) 1 (a + 42)) (a + 82)) (a + 1) 2 (a + 82)) (a + 122)) (a + 1) 3 (a + 122)) (a + 162)) (a + 1) 4 (a + 162))) H := hP
  refine lv_iinc (v := (5 : Int32)) (lv' := [(1, .int (5 : Int32)), (0, .ref (b + a))]) hx hb dX1_init_32 hl (k := 0) rfl (by decide) (Nat.le_of_ble_eq_true rfl) rfl (fun ls hl => ?_)
  refine lv_goto (tgt := 14) hx hb dX1_init_35 (by decide) ?_
  refine lv_iload_n hx hb dX1_init_14 rfl (lv_at hl 0 rfl) ?_
  refine lv_iconst (v := (5 : Int32)) hx hb dX1_init_15 (by decide) ?_
  refine lv_icmp_ge (tgt := 38) hx hb dX1_init_16 (by decide) (fun cq => ?_) (fun cq => absurd (by decide) cq)
  refine W.widen (k := 201) (n := 2060) (Nat.le_of_ble_eq_true rfl) (Nat.le_of_ble_eq_true rfl) ?_
  exact mm_vretN hx hb hr hlocks hP hz hS dX1_init_38
def rmcX2_init : Room := { frames := 1, cells := 2, slots := 180, locals := 30 }
def r_X2_init (R : mR) (a : Nat) : mR := u2 (u2 R a 0 (a + 1)) a 1 (a + 2)
theorem r_X2_init_lt {R : mR} {a x : Nat} (h : x < a) : r_X2_init R a x = R x := by
  unfold r_X2_init
  rw [u2_n _ _ _ (by omega), u2_n _ _ _ (by omega)]
theorem fr_X2_init {I : mI} {L : mL} {R : mR} {a : Nat} (hF : Fr (a + 1) I L R) : Fr (a + 3) I L (r_X2_init R a) := by
  unfold r_X2_init
  have hF := hF.mono (n' := a + 2) (by omega)
  have hF := hF.upR (k := 0) (v := (a + 1)) (a := a) (by omega)
  have hF := hF.mono (n' := a + 3) (by omega)
  have hF := hF.upR (k := 1) (v := (a + 2)) (a := a) (by omega)
  exact hF.mono (by omega)
set_option maxHeartbeats 8000000 in
set_option maxRecDepth 100000 in
theorem c_X2_init (l : Launch) (D : va_G) (ce : Nat → ClassId) (b : Nat) (I : mI) (L : mL) (R : mR) (a : Nat) (hs : ∀ j, j < 3 → kdC (a + j) = kdCl.getD (243 + j) 0 ∧ lnC (a + j) = lnCl.getD (243 + j) 0) (hF : Fr (a + 1) I L R) (hab : a + 3 ≤ 5000) : Met l yX2_init (Cond.code yX2_init cX2_init 1 none :: GW) rmcX2_init (va_Pc [.ref (b + a)] (PN D ce b kdC lnC (a + 1) I L R)) (va_Qv (fun u => u = (I, L, r_X2_init R a)) (QN D ce b kdC lnC (a + 3)) (upA b)) 2 180 (upA b) := by
  refine Met.ofW (cc := cX2_init) (maxL := 1) (ret := none) (by decide) rfl ?_
  intro p e s m args below meth c s₁ B hml hv
  obtain ⟨rfl, hP, hKK, hz, hAO⟩ := hv
  have hx := B.exec
  have hb := B.bytes
  have hr := B.returns
  have hts0 := atoms_spec (ws := Cond.code yX2_init cX2_init 1 none :: GW) B.pre
  have hts : ∀ w ∈ GW, w.before _ s = true := fun w h => hts0 w (List.mem_cons_of_mem _ h)
  clear hts0
  have hown : s.vm.findClass RX2 = some m.cls := findClass_of_methodNamed B.named
  have hlocks := B.notSynchronized
  have hin : meth.name = "<init>" := (name_of_methodNamed B.named B.method).1
  have hA : ∀ n q, box b n q → upA b q := fun _ _ h => h.1
  have hAu : ∀ q, upA b q → upA b q := fun _ h => h
  have hS : va_S (upA b) s.heap s.heap [] := va_S.rf
  have hl := lv_entry ([.ref (b + a)]) (n := 1) (Nat.le_of_ble_eq_true rfl)
  rw [lg_entry_eq]
  generalize (lg_sl ([.ref (b + a)]) ++ List.replicate (1 - (lg_sl ([.ref (b + a)])).length) Slot.unset).toArray = ls at hl ⊢
  have hl : lv_has ls 1 [(0, .ref (b + a))] := hl
  generalize ([.ref (b + a)] : List Value).toArray = av at hts ⊢
  show W p l e rmcX2_init s m av below meth c s.heap [] 0 0 _ _
  refine lv_aload_n hx hb dX2_init_0 rfl (lv_at hl 0 rfl) ?_
  refine W.objInit hx hb hown (hts _ qc219) (hts _ qc101) (hts _ qc102) rfl (by rw [hml]; exact hl.1) rfl dX2_init_1 (Nat.le_of_ble_eq_true rfl) (Nat.le_of_ble_eq_true rfl) ?_
  refine W.eq (g2 := F0 m 4 ls []) rfl ?_
  refine lv_aload_n hx hb dX2_init_4 rfl (lv_at hl 0 rfl) ?_
  refine lv_bipush (v := (120 : Int32)) hx hb dX2_init_5 (by decide) ?_
  refine mm_newi (rest := [.ref (b + a)]) (n := (a + 1)) hx hb hts qc149 hKK hP hz hS (hs 1 (by decide)).1 (by decide) (by rw [(hs 1 (by decide)).2]; rfl) (by rw [(hs 1 (by decide)).2]; decide) hF (Nat.le_of_ble_eq_true rfl) (by rw [(hs 1 (by decide)).2]; exact Nat.le_of_ble_eq_true rfl) dX2_init_7 (fun H hP hz hS => ?_)
  rw [(hs 1 (by decide)).2]
  have hF := hF.mono (n' := (a + 2)) (Nat.le_succ _)
  have hP : va_P D vwCl (wd ce b kdC lnC (a + 2) I L (R)) H := hP
  have hz : H.size = b + (a + 2) := hz
  refine mm_putF (ty := .array .int) hx hb hts hown hKK hP (hA _) hS fkc2_0 (Nat.le_of_ble_eq_true rfl) ⟨tyX2_ok, nmX2, rfl, tyX2_ok 0 (by decide)⟩ lkcX2_9 hin rfl (by omega) (hs 0 (by decide)).1 (by have := hab; unfold NUL; omega) rfl rfl dX2_init_9 (fun H locs hP hz1 hS => ?_)
  have hz : H.size = b + (a + 2) := hz1.trans hz
  have hF := hF.upR (k := 0) (v := (a + 1)) (a := a) (by omega)
  have hP : va_P D vwCl (wd ce b kdC lnC (a + 2) I L (u2 R a 0 (a + 1))) H := hP
  refine lv_aload_n hx hb dX2_init_12 rfl (lv_at hl 0 rfl) ?_
  refine lv_bipush (v := (60 : Int32)) hx hb dX2_init_13 (by decide) ?_
  refine mm_newi (rest := [.ref (b + a)]) (n := (a + 2)) hx hb hts qc149 hKK hP hz hS (hs 2 (by decide)).1 (by decide) (by rw [(hs 2 (by decide)).2]; rfl) (by rw [(hs 2 (by decide)).2]; decide) hF (Nat.le_of_ble_eq_true rfl) (by rw [(hs 2 (by decide)).2]; exact Nat.le_of_ble_eq_true rfl) dX2_init_15 (fun H hP hz hS => ?_)
  rw [(hs 2 (by decide)).2]
  have hF := hF.mono (n' := (a + 3)) (Nat.le_succ _)
  have hP : va_P D vwCl (wd ce b kdC lnC (a + 3) I L (u2 R a 0 (a + 1))) H := hP
  have hz : H.size = b + (a + 3) := hz
  refine mm_putF (ty := .array .int) hx hb hts hown hKK hP (hA _) hS fkc2_1 (Nat.le_of_ble_eq_true rfl) ⟨tyX2_ok, nmX2, rfl, tyX2_ok 1 (by decide)⟩ lkcX2_15 hin rfl (by omega) (hs 0 (by decide)).1 (by have := hab; unfold NUL; omega) rfl rfl dX2_init_17 (fun H locs hP hz1 hS => ?_)
  have hz : H.size = b + (a + 3) := hz1.trans hz
  have hF := hF.upR (k := 1) (v := (a + 2)) (a := a) (by omega)
  have hP : va_P D vwCl (wd ce b kdC lnC (a + 3) I L (u2 (u2 R a 0 (a + 1)) a 1 (a + 2))) H := hP
  refine W.widen (k := 2) (n := 180) (Nat.le_of_ble_eq_true rfl) (Nat.le_of_ble_eq_true rfl) ?_
  exact mm_vretN hx hb hr hlocks hP hz hS dX2_init_20
def rmcX5_init : Room := { frames := 1, cells := 1, slots := 97, locals := 30 }
def r_X5_init (R : mR) (a : Nat) : mR := u2 R a 0 (a + 1)
theorem r_X5_init_lt {R : mR} {a x : Nat} (h : x < a) : r_X5_init R a x = R x := by
  unfold r_X5_init
  rw [u2_n _ _ _ (by omega)]
theorem fr_X5_init {I : mI} {L : mL} {R : mR} {a : Nat} (hF : Fr (a + 1) I L R) : Fr (a + 2) I L (r_X5_init R a) := by
  unfold r_X5_init
  have hF := hF.mono (n' := a + 2) (by omega)
  have hF := hF.upR (k := 0) (v := (a + 1)) (a := a) (by omega)
  exact hF.mono (by omega)
set_option maxHeartbeats 8000000 in
set_option maxRecDepth 100000 in
theorem c_X5_init (l : Launch) (D : va_G) (ce : Nat → ClassId) (b : Nat) (I : mI) (L : mL) (R : mR) (a : Nat) (hs : ∀ j, j < 2 → kdC (a + j) = kdCl.getD (246 + j) 0 ∧ lnC (a + j) = lnCl.getD (246 + j) 0) (hF : Fr (a + 1) I L R) (hab : a + 2 ≤ 5000) : Met l yX5_init (Cond.code yX5_init cX5_init 1 none :: GW) rmcX5_init (va_Pc [.ref (b + a)] (PN D ce b kdC lnC (a + 1) I L R)) (va_Qv (fun u => u = (I, L, r_X5_init R a)) (QN D ce b kdC lnC (a + 2)) (upA b)) 1 97 (upA b) := by
  refine Met.ofW (cc := cX5_init) (maxL := 1) (ret := none) (by decide) rfl ?_
  intro p e s m args below meth c s₁ B hml hv
  obtain ⟨rfl, hP, hKK, hz, hAO⟩ := hv
  have hx := B.exec
  have hb := B.bytes
  have hr := B.returns
  have hts0 := atoms_spec (ws := Cond.code yX5_init cX5_init 1 none :: GW) B.pre
  have hts : ∀ w ∈ GW, w.before _ s = true := fun w h => hts0 w (List.mem_cons_of_mem _ h)
  clear hts0
  have hown : s.vm.findClass RX5 = some m.cls := findClass_of_methodNamed B.named
  have hlocks := B.notSynchronized
  have hin : meth.name = "<init>" := (name_of_methodNamed B.named B.method).1
  have hA : ∀ n q, box b n q → upA b q := fun _ _ h => h.1
  have hAu : ∀ q, upA b q → upA b q := fun _ h => h
  have hS : va_S (upA b) s.heap s.heap [] := va_S.rf
  have hl := lv_entry ([.ref (b + a)]) (n := 1) (Nat.le_of_ble_eq_true rfl)
  rw [lg_entry_eq]
  generalize (lg_sl ([.ref (b + a)]) ++ List.replicate (1 - (lg_sl ([.ref (b + a)])).length) Slot.unset).toArray = ls at hl ⊢
  have hl : lv_has ls 1 [(0, .ref (b + a))] := hl
  generalize ([.ref (b + a)] : List Value).toArray = av at hts ⊢
  show W p l e rmcX5_init s m av below meth c s.heap [] 0 0 _ _
  refine lv_aload_n hx hb dX5_init_0 rfl (lv_at hl 0 rfl) ?_
  refine W.objInit hx hb hown (hts _ qc243) (hts _ qc101) (hts _ qc102) rfl (by rw [hml]; exact hl.1) rfl dX5_init_1 (Nat.le_of_ble_eq_true rfl) (Nat.le_of_ble_eq_true rfl) ?_
  refine W.eq (g2 := F0 m 4 ls []) rfl ?_
  refine lv_aload_n hx hb dX5_init_4 rfl (lv_at hl 0 rfl) ?_
  refine lv_bipush (v := (97 : Int32)) hx hb dX5_init_5 (by decide) ?_
  refine mm_newi (rest := [.ref (b + a)]) (n := (a + 1)) hx hb hts qc149 hKK hP hz hS (hs 1 (by decide)).1 (by decide) (by rw [(hs 1 (by decide)).2]; rfl) (by rw [(hs 1 (by decide)).2]; decide) hF (Nat.le_of_ble_eq_true rfl) (by rw [(hs 1 (by decide)).2]; exact Nat.le_of_ble_eq_true rfl) dX5_init_7 (fun H hP hz hS => ?_)
  rw [(hs 1 (by decide)).2]
  have hF := hF.mono (n' := (a + 2)) (Nat.le_succ _)
  have hP : va_P D vwCl (wd ce b kdC lnC (a + 2) I L (R)) H := hP
  have hz : H.size = b + (a + 2) := hz
  refine mm_putF (ty := .array .int) hx hb hts hown hKK hP (hA _) hS fkc5_0 (Nat.le_of_ble_eq_true rfl) ⟨tyX5_ok, nmX5, rfl, tyX5_ok 0 (by decide)⟩ lkcX5_9 hin rfl (by omega) (hs 0 (by decide)).1 (by have := hab; unfold NUL; omega) rfl rfl dX5_init_9 (fun H locs hP hz1 hS => ?_)
  have hz : H.size = b + (a + 2) := hz1.trans hz
  have hF := hF.upR (k := 0) (v := (a + 1)) (a := a) (by omega)
  have hP : va_P D vwCl (wd ce b kdC lnC (a + 2) I L (u2 R a 0 (a + 1))) H := hP
  refine W.widen (k := 1) (n := 97) (Nat.le_of_ble_eq_true rfl) (Nat.le_of_ble_eq_true rfl) ?_
  exact mm_vretN hx hb hr hlocks hP hz hS dX5_init_12
def rmcX0_init : Room := { frames := 1, cells := 7, slots := 365, locals := 30 }
def r_X0_init (R : mR) (a : Nat) : mR := u2 (u2 (u2 (u2 (u2 (u2 (u2 R a 0 (a + 1)) a 1 (a + 2)) a 2 (a + 3)) a 3 (a + 4)) a 4 (a + 5)) a 5 (a + 6)) a 6 (a + 7)
theorem r_X0_init_lt {R : mR} {a x : Nat} (h : x < a) : r_X0_init R a x = R x := by
  unfold r_X0_init
  rw [u2_n _ _ _ (by omega), u2_n _ _ _ (by omega), u2_n _ _ _ (by omega), u2_n _ _ _ (by omega), u2_n _ _ _ (by omega), u2_n _ _ _ (by omega), u2_n _ _ _ (by omega)]
theorem fr_X0_init {I : mI} {L : mL} {R : mR} {a : Nat} (hF : Fr (a + 1) I L R) : Fr (a + 8) I L (r_X0_init R a) := by
  unfold r_X0_init
  have hF := hF.mono (n' := a + 2) (by omega)
  have hF := hF.upR (k := 0) (v := (a + 1)) (a := a) (by omega)
  have hF := hF.mono (n' := a + 3) (by omega)
  have hF := hF.upR (k := 1) (v := (a + 2)) (a := a) (by omega)
  have hF := hF.mono (n' := a + 4) (by omega)
  have hF := hF.upR (k := 2) (v := (a + 3)) (a := a) (by omega)
  have hF := hF.mono (n' := a + 5) (by omega)
  have hF := hF.upR (k := 3) (v := (a + 4)) (a := a) (by omega)
  have hF := hF.mono (n' := a + 6) (by omega)
  have hF := hF.upR (k := 4) (v := (a + 5)) (a := a) (by omega)
  have hF := hF.mono (n' := a + 7) (by omega)
  have hF := hF.upR (k := 5) (v := (a + 6)) (a := a) (by omega)
  have hF := hF.mono (n' := a + 8) (by omega)
  have hF := hF.upR (k := 6) (v := (a + 7)) (a := a) (by omega)
  exact hF.mono (by omega)
set_option maxHeartbeats 8000000 in
set_option maxRecDepth 100000 in
theorem c_X0_init (l : Launch) (D : va_G) (ce : Nat → ClassId) (b : Nat) (I : mI) (L : mL) (R : mR) (a : Nat) (hs : ∀ j, j < 8 → kdC (a + j) = kdCl.getD (248 + j) 0 ∧ lnC (a + j) = lnCl.getD (248 + j) 0) (hF : Fr (a + 1) I L R) (hab : a + 8 ≤ 5000) : Met l yX0_init (Cond.code yX0_init cX0_init 1 none :: GW) rmcX0_init (va_Pc [.ref (b + a)] (PN D ce b kdC lnC (a + 1) I L R)) (va_Qv (fun u => u = (I, L, r_X0_init R a)) (QN D ce b kdC lnC (a + 8)) (upA b)) 7 365 (upA b) := by
  refine Met.ofW (cc := cX0_init) (maxL := 1) (ret := none) (by decide) rfl ?_
  intro p e s m args below meth c s₁ B hml hv
  obtain ⟨rfl, hP, hKK, hz, hAO⟩ := hv
  have hx := B.exec
  have hb := B.bytes
  have hr := B.returns
  have hts0 := atoms_spec (ws := Cond.code yX0_init cX0_init 1 none :: GW) B.pre
  have hts : ∀ w ∈ GW, w.before _ s = true := fun w h => hts0 w (List.mem_cons_of_mem _ h)
  clear hts0
  have hown : s.vm.findClass RX0 = some m.cls := findClass_of_methodNamed B.named
  have hlocks := B.notSynchronized
  have hin : meth.name = "<init>" := (name_of_methodNamed B.named B.method).1
  have hA : ∀ n q, box b n q → upA b q := fun _ _ h => h.1
  have hAu : ∀ q, upA b q → upA b q := fun _ h => h
  have hS : va_S (upA b) s.heap s.heap [] := va_S.rf
  have hl := lv_entry ([.ref (b + a)]) (n := 1) (Nat.le_of_ble_eq_true rfl)
  rw [lg_entry_eq]
  generalize (lg_sl ([.ref (b + a)]) ++ List.replicate (1 - (lg_sl ([.ref (b + a)])).length) Slot.unset).toArray = ls at hl ⊢
  have hl : lv_has ls 1 [(0, .ref (b + a))] := hl
  generalize ([.ref (b + a)] : List Value).toArray = av at hts ⊢
  show W p l e rmcX0_init s m av below meth c s.heap [] 0 0 _ _
  refine lv_aload_n hx hb dX0_init_0 rfl (lv_at hl 0 rfl) ?_
  refine W.objInit hx hb hown (hts _ qc258) (hts _ qc101) (hts _ qc102) rfl (by rw [hml]; exact hl.1) rfl dX0_init_1 (Nat.le_of_ble_eq_true rfl) (Nat.le_of_ble_eq_true rfl) ?_
  refine W.eq (g2 := F0 m 4 ls []) rfl ?_
  refine lv_aload_n hx hb dX0_init_4 rfl (lv_at hl 0 rfl) ?_
  refine lv_bipush (v := (60 : Int32)) hx hb dX0_init_5 (by decide) ?_
  refine mm_newi (rest := [.ref (b + a)]) (n := (a + 1)) hx hb hts qc149 hKK hP hz hS (hs 1 (by decide)).1 (by decide) (by rw [(hs 1 (by decide)).2]; rfl) (by rw [(hs 1 (by decide)).2]; decide) hF (Nat.le_of_ble_eq_true rfl) (by rw [(hs 1 (by decide)).2]; exact Nat.le_of_ble_eq_true rfl) dX0_init_7 (fun H hP hz hS => ?_)
  rw [(hs 1 (by decide)).2]
  have hF := hF.mono (n' := (a + 2)) (Nat.le_succ _)
  have hP : va_P D vwCl (wd ce b kdC lnC (a + 2) I L (R)) H := hP
  have hz : H.size = b + (a + 2) := hz
  refine mm_putF (ty := .array .int) hx hb hts hown hKK hP (hA _) hS fkc0_0 (Nat.le_of_ble_eq_true rfl) ⟨tyX0_ok, nmX0, rfl, tyX0_ok 0 (by decide)⟩ lkcX0_9 hin rfl (by omega) (hs 0 (by decide)).1 (by have := hab; unfold NUL; omega) rfl rfl dX0_init_9 (fun H locs hP hz1 hS => ?_)
  have hz : H.size = b + (a + 2) := hz1.trans hz
  have hF := hF.upR (k := 0) (v := (a + 1)) (a := a) (by omega)
  have hP : va_P D vwCl (wd ce b kdC lnC (a + 2) I L (u2 R a 0 (a + 1))) H := hP
  refine lv_aload_n hx hb dX0_init_12 rfl (lv_at hl 0 rfl) ?_
  refine lv_bipush (v := (60 : Int32)) hx hb dX0_init_13 (by decide) ?_
  refine mm_newi (rest := [.ref (b + a)]) (n := (a + 2)) hx hb hts qc149 hKK hP hz hS (hs 2 (by decide)).1 (by decide) (by rw [(hs 2 (by decide)).2]; rfl) (by rw [(hs 2 (by decide)).2]; decide) hF (Nat.le_of_ble_eq_true rfl) (by rw [(hs 2 (by decide)).2]; exact Nat.le_of_ble_eq_true rfl) dX0_init_15 (fun H hP hz hS => ?_)
  rw [(hs 2 (by decide)).2]
  have hF := hF.mono (n' := (a + 3)) (Nat.le_succ _)
  have hP : va_P D vwCl (wd ce b kdC lnC (a + 3) I L (u2 R a 0 (a + 1))) H := hP
  have hz : H.size = b + (a + 3) := hz
  refine mm_putF (ty := .array .int) hx hb hts hown hKK hP (hA _) hS fkc0_1 (Nat.le_of_ble_eq_true rfl) ⟨tyX0_ok, nmX0, rfl, tyX0_ok 1 (by decide)⟩ lkcX0_15 hin rfl (by omega) (hs 0 (by decide)).1 (by have := hab; unfold NUL; omega) rfl rfl dX0_init_17 (fun H locs hP hz1 hS => ?_)
  have hz : H.size = b + (a + 3) := hz1.trans hz
  have hF := hF.upR (k := 1) (v := (a + 2)) (a := a) (by omega)
  have hP : va_P D vwCl (wd ce b kdC lnC (a + 3) I L (u2 (u2 R a 0 (a + 1)) a 1 (a + 2))) H := hP
  refine lv_aload_n hx hb dX0_init_20 rfl (lv_at hl 0 rfl) ?_
  refine lv_bipush (v := (60 : Int32)) hx hb dX0_init_21 (by decide) ?_
  refine mm_newi (rest := [.ref (b + a)]) (n := (a + 3)) hx hb hts qc149 hKK hP hz hS (hs 3 (by decide)).1 (by decide) (by rw [(hs 3 (by decide)).2]; rfl) (by rw [(hs 3 (by decide)).2]; decide) hF (Nat.le_of_ble_eq_true rfl) (by rw [(hs 3 (by decide)).2]; exact Nat.le_of_ble_eq_true rfl) dX0_init_23 (fun H hP hz hS => ?_)
  rw [(hs 3 (by decide)).2]
  have hF := hF.mono (n' := (a + 4)) (Nat.le_succ _)
  have hP : va_P D vwCl (wd ce b kdC lnC (a + 4) I L (u2 (u2 R a 0 (a + 1)) a 1 (a + 2))) H := hP
  have hz : H.size = b + (a + 4) := hz
  refine mm_putF (ty := .array .int) hx hb hts hown hKK hP (hA _) hS fkc0_2 (Nat.le_of_ble_eq_true rfl) ⟨tyX0_ok, nmX0, rfl, tyX0_ok 2 (by decide)⟩ lkcX0_18 hin rfl (by omega) (hs 0 (by decide)).1 (by have := hab; unfold NUL; omega) rfl rfl dX0_init_25 (fun H locs hP hz1 hS => ?_)
  have hz : H.size = b + (a + 4) := hz1.trans hz
  have hF := hF.upR (k := 2) (v := (a + 3)) (a := a) (by omega)
  have hP : va_P D vwCl (wd ce b kdC lnC (a + 4) I L (u2 (u2 (u2 R a 0 (a + 1)) a 1 (a + 2)) a 2 (a + 3))) H := hP
  refine lv_aload_n hx hb dX0_init_28 rfl (lv_at hl 0 rfl) ?_
  refine lv_bipush (v := (60 : Int32)) hx hb dX0_init_29 (by decide) ?_
  refine mm_newl (rest := [.ref (b + a)]) (n := (a + 4)) hx hb hts qc304 hKK hP hz hS (hs 4 (by decide)).1 (by decide) (by rw [(hs 4 (by decide)).2]; rfl) (by rw [(hs 4 (by decide)).2]; decide) hF (Nat.le_of_ble_eq_true rfl) (by rw [(hs 4 (by decide)).2]; exact Nat.le_of_ble_eq_true rfl) dX0_init_31 (fun H hP hz hS => ?_)
  rw [(hs 4 (by decide)).2]
  have hF := hF.mono (n' := (a + 5)) (Nat.le_succ _)
  have hP : va_P D vwCl (wd ce b kdC lnC (a + 5) I L (u2 (u2 (u2 R a 0 (a + 1)) a 1 (a + 2)) a 2 (a + 3))) H := hP
  have hz : H.size = b + (a + 5) := hz
  refine mm_putF (ty := .array .long) hx hb hts hown hKK hP (hA _) hS fkc0_3 (Nat.le_of_ble_eq_true rfl) ⟨tyX0_ok, nmX0, rfl, tyX0_ok 3 (by decide)⟩ lkcX0_21 hin rfl (by omega) (hs 0 (by decide)).1 (by have := hab; unfold NUL; omega) rfl rfl dX0_init_33 (fun H locs hP hz1 hS => ?_)
  have hz : H.size = b + (a + 5) := hz1.trans hz
  have hF := hF.upR (k := 3) (v := (a + 4)) (a := a) (by omega)
  have hP : va_P D vwCl (wd ce b kdC lnC (a + 5) I L (u2 (u2 (u2 (u2 R a 0 (a + 1)) a 1 (a + 2)) a 2 (a + 3)) a 3 (a + 4))) H := hP
  refine lv_aload_n hx hb dX0_init_36 rfl (lv_at hl 0 rfl) ?_
  refine lv_bipush (v := (60 : Int32)) hx hb dX0_init_37 (by decide) ?_
  refine mm_newl (rest := [.ref (b + a)]) (n := (a + 5)) hx hb hts qc304 hKK hP hz hS (hs 5 (by decide)).1 (by decide) (by rw [(hs 5 (by decide)).2]; rfl) (by rw [(hs 5 (by decide)).2]; decide) hF (Nat.le_of_ble_eq_true rfl) (by rw [(hs 5 (by decide)).2]; exact Nat.le_of_ble_eq_true rfl) dX0_init_39 (fun H hP hz hS => ?_)
  rw [(hs 5 (by decide)).2]
  have hF := hF.mono (n' := (a + 6)) (Nat.le_succ _)
  have hP : va_P D vwCl (wd ce b kdC lnC (a + 6) I L (u2 (u2 (u2 (u2 R a 0 (a + 1)) a 1 (a + 2)) a 2 (a + 3)) a 3 (a + 4))) H := hP
  have hz : H.size = b + (a + 6) := hz
  refine mm_putF (ty := .array .long) hx hb hts hown hKK hP (hA _) hS fkc0_4 (Nat.le_of_ble_eq_true rfl) ⟨tyX0_ok, nmX0, rfl, tyX0_ok 4 (by decide)⟩ lkcX0_25 hin rfl (by omega) (hs 0 (by decide)).1 (by have := hab; unfold NUL; omega) rfl rfl dX0_init_41 (fun H locs hP hz1 hS => ?_)
  have hz : H.size = b + (a + 6) := hz1.trans hz
  have hF := hF.upR (k := 4) (v := (a + 5)) (a := a) (by omega)
  have hP : va_P D vwCl (wd ce b kdC lnC (a + 6) I L (u2 (u2 (u2 (u2 (u2 R a 0 (a + 1)) a 1 (a + 2)) a 2 (a + 3)) a 3 (a + 4)) a 4 (a + 5))) H := hP
  refine lv_aload_n hx hb dX0_init_44 rfl (lv_at hl 0 rfl) ?_
  refine lv_iconst (v := (5 : Int32)) hx hb dX0_init_45 (by decide) ?_
  refine mm_newl (rest := [.ref (b + a)]) (n := (a + 6)) hx hb hts qc304 hKK hP hz hS (hs 6 (by decide)).1 (by decide) (by rw [(hs 6 (by decide)).2]; rfl) (by rw [(hs 6 (by decide)).2]; decide) hF (Nat.le_of_ble_eq_true rfl) (by rw [(hs 6 (by decide)).2]; exact Nat.le_of_ble_eq_true rfl) dX0_init_46 (fun H hP hz hS => ?_)
  rw [(hs 6 (by decide)).2]
  have hF := hF.mono (n' := (a + 7)) (Nat.le_succ _)
  have hP : va_P D vwCl (wd ce b kdC lnC (a + 7) I L (u2 (u2 (u2 (u2 (u2 R a 0 (a + 1)) a 1 (a + 2)) a 2 (a + 3)) a 3 (a + 4)) a 4 (a + 5))) H := hP
  have hz : H.size = b + (a + 7) := hz
  refine mm_putF (ty := .array .long) hx hb hts hown hKK hP (hA _) hS fkc0_5 (Nat.le_of_ble_eq_true rfl) ⟨tyX0_ok, nmX0, rfl, tyX0_ok 5 (by decide)⟩ lkcX0_28 hin rfl (by omega) (hs 0 (by decide)).1 (by have := hab; unfold NUL; omega) rfl rfl dX0_init_48 (fun H locs hP hz1 hS => ?_)
  have hz : H.size = b + (a + 7) := hz1.trans hz
  have hF := hF.upR (k := 5) (v := (a + 6)) (a := a) (by omega)
  have hP : va_P D vwCl (wd ce b kdC lnC (a + 7) I L (u2 (u2 (u2 (u2 (u2 (u2 R a 0 (a + 1)) a 1 (a + 2)) a 2 (a + 3)) a 3 (a + 4)) a 4 (a + 5)) a 5 (a + 6))) H := hP
  refine lv_aload_n hx hb dX0_init_51 rfl (lv_at hl 0 rfl) ?_
  refine lv_bipush (v := (60 : Int32)) hx hb dX0_init_52 (by decide) ?_
  refine mm_newi (rest := [.ref (b + a)]) (n := (a + 7)) hx hb hts qc149 hKK hP hz hS (hs 7 (by decide)).1 (by decide) (by rw [(hs 7 (by decide)).2]; rfl) (by rw [(hs 7 (by decide)).2]; decide) hF (Nat.le_of_ble_eq_true rfl) (by rw [(hs 7 (by decide)).2]; exact Nat.le_of_ble_eq_true rfl) dX0_init_54 (fun H hP hz hS => ?_)
  rw [(hs 7 (by decide)).2]
  have hF := hF.mono (n' := (a + 8)) (Nat.le_succ _)
  have hP : va_P D vwCl (wd ce b kdC lnC (a + 8) I L (u2 (u2 (u2 (u2 (u2 (u2 R a 0 (a + 1)) a 1 (a + 2)) a 2 (a + 3)) a 3 (a + 4)) a 4 (a + 5)) a 5 (a + 6))) H := hP
  have hz : H.size = b + (a + 8) := hz
  refine mm_putF (ty := .array .int) hx hb hts hown hKK hP (hA _) hS fkc0_6 (Nat.le_of_ble_eq_true rfl) ⟨tyX0_ok, nmX0, rfl, tyX0_ok 6 (by decide)⟩ lkcX0_31 hin rfl (by omega) (hs 0 (by decide)).1 (by have := hab; unfold NUL; omega) rfl rfl dX0_init_56 (fun H locs hP hz1 hS => ?_)
  have hz : H.size = b + (a + 8) := hz1.trans hz
  have hF := hF.upR (k := 6) (v := (a + 7)) (a := a) (by omega)
  have hP : va_P D vwCl (wd ce b kdC lnC (a + 8) I L (u2 (u2 (u2 (u2 (u2 (u2 (u2 R a 0 (a + 1)) a 1 (a + 2)) a 2 (a + 3)) a 3 (a + 4)) a 4 (a + 5)) a 5 (a + 6)) a 6 (a + 7))) H := hP
  refine W.widen (k := 7) (n := 365) (Nat.le_of_ble_eq_true rfl) (Nat.le_of_ble_eq_true rfl) ?_
  exact mm_vretN hx hb hr hlocks hP hz hS dX0_init_59
def rmcX6_init : Room := { frames := 1, cells := 1, slots := 72, locals := 30 }
def r_X6_init (R : mR) (a : Nat) : mR := u2 R a 0 (a + 1)
theorem r_X6_init_lt {R : mR} {a x : Nat} (h : x < a) : r_X6_init R a x = R x := by
  unfold r_X6_init
  rw [u2_n _ _ _ (by omega)]
theorem fr_X6_init {I : mI} {L : mL} {R : mR} {a : Nat} (hF : Fr (a + 1) I L R) : Fr (a + 2) I L (r_X6_init R a) := by
  unfold r_X6_init
  have hF := hF.mono (n' := a + 2) (by omega)
  have hF := hF.upR (k := 0) (v := (a + 1)) (a := a) (by omega)
  exact hF.mono (by omega)
set_option maxHeartbeats 8000000 in
set_option maxRecDepth 100000 in
theorem c_X6_init (l : Launch) (D : va_G) (ce : Nat → ClassId) (b : Nat) (I : mI) (L : mL) (R : mR) (a : Nat) (hs : ∀ j, j < 2 → kdC (a + j) = kdCl.getD (257 + j) 0 ∧ lnC (a + j) = lnCl.getD (257 + j) 0) (hF : Fr (a + 1) I L R) (hab : a + 2 ≤ 5000) : Met l yX6_init (Cond.code yX6_init cX6_init 1 none :: GW) rmcX6_init (va_Pc [.ref (b + a)] (PN D ce b kdC lnC (a + 1) I L R)) (va_Qv (fun u => u = (I, L, r_X6_init R a)) (QN D ce b kdC lnC (a + 2)) (upA b)) 1 72 (upA b) := by
  refine Met.ofW (cc := cX6_init) (maxL := 1) (ret := none) (by decide) rfl ?_
  intro p e s m args below meth c s₁ B hml hv
  obtain ⟨rfl, hP, hKK, hz, hAO⟩ := hv
  have hx := B.exec
  have hb := B.bytes
  have hr := B.returns
  have hts0 := atoms_spec (ws := Cond.code yX6_init cX6_init 1 none :: GW) B.pre
  have hts : ∀ w ∈ GW, w.before _ s = true := fun w h => hts0 w (List.mem_cons_of_mem _ h)
  clear hts0
  have hown : s.vm.findClass RX6 = some m.cls := findClass_of_methodNamed B.named
  have hlocks := B.notSynchronized
  have hin : meth.name = "<init>" := (name_of_methodNamed B.named B.method).1
  have hA : ∀ n q, box b n q → upA b q := fun _ _ h => h.1
  have hAu : ∀ q, upA b q → upA b q := fun _ h => h
  have hS : va_S (upA b) s.heap s.heap [] := va_S.rf
  have hl := lv_entry ([.ref (b + a)]) (n := 1) (Nat.le_of_ble_eq_true rfl)
  rw [lg_entry_eq]
  generalize (lg_sl ([.ref (b + a)]) ++ List.replicate (1 - (lg_sl ([.ref (b + a)])).length) Slot.unset).toArray = ls at hl ⊢
  have hl : lv_has ls 1 [(0, .ref (b + a))] := hl
  generalize ([.ref (b + a)] : List Value).toArray = av at hts ⊢
  show W p l e rmcX6_init s m av below meth c s.heap [] 0 0 _ _
  refine lv_aload_n hx hb dX6_init_0 rfl (lv_at hl 0 rfl) ?_
  refine W.objInit hx hb hown (hts _ qc316) (hts _ qc101) (hts _ qc102) rfl (by rw [hml]; exact hl.1) rfl dX6_init_1 (Nat.le_of_ble_eq_true rfl) (Nat.le_of_ble_eq_true rfl) ?_
  refine W.eq (g2 := F0 m 4 ls []) rfl ?_
  refine lv_aload_n hx hb dX6_init_4 rfl (lv_at hl 0 rfl) ?_
  refine lv_bipush (v := (72 : Int32)) hx hb dX6_init_5 (by decide) ?_
  refine mm_newi (rest := [.ref (b + a)]) (n := (a + 1)) hx hb hts qc149 hKK hP hz hS (hs 1 (by decide)).1 (by decide) (by rw [(hs 1 (by decide)).2]; rfl) (by rw [(hs 1 (by decide)).2]; decide) hF (Nat.le_of_ble_eq_true rfl) (by rw [(hs 1 (by decide)).2]; exact Nat.le_of_ble_eq_true rfl) dX6_init_7 (fun H hP hz hS => ?_)
  rw [(hs 1 (by decide)).2]
  have hF := hF.mono (n' := (a + 2)) (Nat.le_succ _)
  have hP : va_P D vwCl (wd ce b kdC lnC (a + 2) I L (R)) H := hP
  have hz : H.size = b + (a + 2) := hz
  refine mm_putF (ty := .array .int) hx hb hts hown hKK hP (hA _) hS fkc6_0 (Nat.le_of_ble_eq_true rfl) ⟨tyX6_ok, nmX6, rfl, tyX6_ok 0 (by decide)⟩ lkcX6_11 hin rfl (by omega) (hs 0 (by decide)).1 (by have := hab; unfold NUL; omega) rfl rfl dX6_init_9 (fun H locs hP hz1 hS => ?_)
  have hz : H.size = b + (a + 2) := hz1.trans hz
  have hF := hF.upR (k := 0) (v := (a + 1)) (a := a) (by omega)
  have hP : va_P D vwCl (wd ce b kdC lnC (a + 2) I L (u2 R a 0 (a + 1))) H := hP
  refine W.widen (k := 1) (n := 72) (Nat.le_of_ble_eq_true rfl) (Nat.le_of_ble_eq_true rfl) ?_
  exact mm_vretN hx hb hr hlocks hP hz hS dX6_init_12
def rmcX4_init : Room := { frames := 2, cells := 6, slots := 531, locals := 50 }
def r_X4_init (R : mR) (a : Nat) : mR := u2 (u2 (u2 (r_X6_init (u2 (r_X6_init R (a + 1)) a 0 (a + 1)) (a + 3)) a 1 (a + 3)) a 2 (a + 5)) a 3 (a + 6)
theorem r_X4_init_lt {R : mR} {a x : Nat} (h : x < a) : r_X4_init R a x = R x := by
  unfold r_X4_init
  rw [u2_n _ _ _ (by omega), u2_n _ _ _ (by omega), u2_n _ _ _ (by omega), r_X6_init_lt (by omega), u2_n _ _ _ (by omega), r_X6_init_lt (by omega)]
theorem fr_X4_init {I : mI} {L : mL} {R : mR} {a : Nat} (hF : Fr (a + 1) I L R) : Fr (a + 7) I L (r_X4_init R a) := by
  unfold r_X4_init
  have hF := hF.mono (n' := a + 2) (by omega)
  have hF := fr_X6_init (a := (a + 1)) hF
  have hF : Fr (a + 3) _ _ _ := hF
  have hF := hF.upR (k := 0) (v := (a + 1)) (a := a) (by omega)
  have hF := hF.mono (n' := a + 4) (by omega)
  have hF := fr_X6_init (a := (a + 3)) hF
  have hF : Fr (a + 5) _ _ _ := hF
  have hF := hF.upR (k := 1) (v := (a + 3)) (a := a) (by omega)
  have hF := hF.mono (n' := a + 6) (by omega)
  have hF := hF.upR (k := 2) (v := (a + 5)) (a := a) (by omega)
  have hF := hF.mono (n' := a + 7) (by omega)
  have hF := hF.upR (k := 3) (v := (a + 6)) (a := a) (by omega)
  exact hF.mono (by omega)
set_option maxHeartbeats 8000000 in
set_option maxRecDepth 100000 in
theorem c_X4_init (l : Launch) (D : va_G) (ce : Nat → ClassId) (b : Nat) (I : mI) (L : mL) (R : mR) (a : Nat) (hs : ∀ j, j < 7 → kdC (a + j) = kdCl.getD (256 + j) 0 ∧ lnC (a + j) = lnCl.getD (256 + j) 0) (hF : Fr (a + 1) I L R) (hab : a + 7 ≤ 5000) : Met l yX4_init (Cond.code yX4_init cX4_init 1 none :: GW) rmcX4_init (va_Pc [.ref (b + a)] (PN D ce b kdC lnC (a + 1) I L R)) (va_Qv (fun u => u = (I, L, r_X4_init R a)) (QN D ce b kdC lnC (a + 7)) (upA b)) 6 531 (upA b) := by
  refine Met.ofW (cc := cX4_init) (maxL := 1) (ret := none) (by decide) rfl ?_
  intro p e s m args below meth c s₁ B hml hv
  obtain ⟨rfl, hP, hKK, hz, hAO⟩ := hv
  have hx := B.exec
  have hb := B.bytes
  have hr := B.returns
  have hts0 := atoms_spec (ws := Cond.code yX4_init cX4_init 1 none :: GW) B.pre
  have hts : ∀ w ∈ GW, w.before _ s = true := fun w h => hts0 w (List.mem_cons_of_mem _ h)
  clear hts0
  have hown : s.vm.findClass RX4 = some m.cls := findClass_of_methodNamed B.named
  have hlocks := B.notSynchronized
  have hin : meth.name = "<init>" := (name_of_methodNamed B.named B.method).1
  have hA : ∀ n q, box b n q → upA b q := fun _ _ h => h.1
  have hAu : ∀ q, upA b q → upA b q := fun _ h => h
  have hS : va_S (upA b) s.heap s.heap [] := va_S.rf
  have hl := lv_entry ([.ref (b + a)]) (n := 1) (Nat.le_of_ble_eq_true rfl)
  rw [lg_entry_eq]
  generalize (lg_sl ([.ref (b + a)]) ++ List.replicate (1 - (lg_sl ([.ref (b + a)])).length) Slot.unset).toArray = ls at hl ⊢
  have hl : lv_has ls 1 [(0, .ref (b + a))] := hl
  generalize ([.ref (b + a)] : List Value).toArray = av at hts ⊢
  show W p l e rmcX4_init s m av below meth c s.heap [] 0 0 _ _
  refine lv_aload_n hx hb dX4_init_0 rfl (lv_at hl 0 rfl) ?_
  refine W.objInit hx hb hown (hts _ qc310) (hts _ qc101) (hts _ qc102) rfl (by rw [hml]; exact hl.1) rfl dX4_init_1 (Nat.le_of_ble_eq_true rfl) (Nat.le_of_ble_eq_true rfl) ?_
  refine W.eq (g2 := F0 m 4 ls []) rfl ?_
  refine lv_aload_n hx hb dX4_init_4 rfl (lv_at hl 0 rfl) ?_
  refine mm_new (rest := [.ref (b + a)]) (C := RX6) (T := TX6) (N := 1) (ty := tyX6) (n := (a + 1)) hx hb hts hown inGX6 (ci := 6) rfl tyX6_ok ⟨qc311, qc312, qc90⟩ hKK hP hz hS (hs 1 (by decide)).1 hF dfX6 (Nat.le_of_ble_eq_true rfl) (Nat.le_of_ble_eq_true rfl) dX4_init_5 (fun H hP hz hS => ?_)
  have hF := hF.mono (n' := (a + 2)) (Nat.le_succ _)
  have hP : va_P D vwCl (wd ce b kdC lnC (a + 2) I L (R)) H := hP
  have hz : H.size = b + (a + 2) := hz
  refine lv_dup hx hb dX4_init_8 rfl ?_
  refine mm_I (rest := [.ref (b + (a + 1)), .ref (b + a)]) (rm := rmcX6_init) hx hb hml hown hts hKK hAO hP hz hS hAu (show IOK RX4 11 yX6_init cX6_init 1 0 from ⟨Or.inr (List.mem_of_getElem? (i := 5) rfl), qc314, qc90, qc315, rfl, by decide +kernel⟩) (c_X6_init l D ce b I L R (a + 1) (fun j hj => by have h := hs (1 + j) (by omega); rw [← Nat.add_assoc] at h; exact ⟨h.1.trans ((by decide : ∀ j, j < 2 → kdCl.getD (256 + (1 + j)) 0 = kdCl.getD (257 + j) 0) j hj), h.2.trans ((by decide : ∀ j, j < 2 → lnCl.getD (256 + (1 + j)) 0 = lnCl.getD (257 + j) 0) j hj)⟩) hF (by have := hab; omega)) rfl hl.1 rfl (Nat.le_of_ble_eq_true rfl) ⟨rfl, rfl⟩ ⟨Nat.le_of_ble_eq_true rfl, Nat.le_of_ble_eq_true rfl⟩ ⟨Nat.le_of_ble_eq_true rfl, Nat.le_of_ble_eq_true rfl⟩ dX4_init_9 (fun H locs hP hz hS => ?_)
  have hF := fr_X6_init hF
  have hP : va_P D vwCl (wd ce b kdC lnC (a + 3) I L (r_X6_init R (a + 1))) H := hP
  have hz : H.size = b + (a + 3) := hz
  have hF : Fr (a + 3) I L (r_X6_init R (a + 1)) := hF
  refine mm_putF (ty := .object "FallingRules$Shares") hx hb hts hown hKK hP (hA _) hS fkc4_0 (Nat.le_of_ble_eq_true rfl) ⟨tyX4_ok, nmX4, rfl, tyX4_ok 0 (by decide)⟩ lkcX4_12 hin rfl (by omega) (hs 0 (by decide)).1 (by have := hab; unfold NUL; omega) rfl rfl dX4_init_12 (fun H locs hP hz1 hS => ?_)
  have hz : H.size = b + (a + 3) := hz1.trans hz
  have hF := hF.upR (k := 0) (v := (a + 1)) (a := a) (by omega)
  have hP : va_P D vwCl (wd ce b kdC lnC (a + 3) I L (u2 (r_X6_init R (a + 1)) a 0 (a + 1))) H := hP
  refine lv_aload_n hx hb dX4_init_15 rfl (lv_at hl 0 rfl) ?_
  refine mm_new (rest := [.ref (b + a)]) (C := RX6) (T := TX6) (N := 1) (ty := tyX6) (n := (a + 3)) hx hb hts hown inGX6 (ci := 6) rfl tyX6_ok ⟨qc311, qc312, qc90⟩ hKK hP hz hS (hs 3 (by decide)).1 hF dfX6 (Nat.le_of_ble_eq_true rfl) (Nat.le_of_ble_eq_true rfl) dX4_init_16 (fun H hP hz hS => ?_)
  have hF := hF.mono (n' := (a + 4)) (Nat.le_succ _)
  have hP : va_P D vwCl (wd ce b kdC lnC (a + 4) I L (u2 (r_X6_init R (a + 1)) a 0 (a + 1))) H := hP
  have hz : H.size = b + (a + 4) := hz
  refine lv_dup hx hb dX4_init_19 rfl ?_
  refine mm_I (rest := [.ref (b + (a + 3)), .ref (b + a)]) (rm := rmcX6_init) hx hb hml hown hts hKK hAO hP hz hS hAu (show IOK RX4 11 yX6_init cX6_init 1 0 from ⟨Or.inr (List.mem_of_getElem? (i := 5) rfl), qc314, qc90, qc315, rfl, by decide +kernel⟩) (c_X6_init l D ce b I L (u2 (r_X6_init R (a + 1)) a 0 (a + 1)) (a + 3) (fun j hj => by have h := hs (3 + j) (by omega); rw [← Nat.add_assoc] at h; exact ⟨h.1.trans ((by decide : ∀ j, j < 2 → kdCl.getD (256 + (3 + j)) 0 = kdCl.getD (257 + j) 0) j hj), h.2.trans ((by decide : ∀ j, j < 2 → lnCl.getD (256 + (3 + j)) 0 = lnCl.getD (257 + j) 0) j hj)⟩) hF (by have := hab; omega)) rfl hl.1 rfl (Nat.le_of_ble_eq_true rfl) ⟨rfl, rfl⟩ ⟨Nat.le_of_ble_eq_true rfl, Nat.le_of_ble_eq_true rfl⟩ ⟨Nat.le_of_ble_eq_true rfl, Nat.le_of_ble_eq_true rfl⟩ dX4_init_20 (fun H locs hP hz hS => ?_)
  have hF := fr_X6_init hF
  have hP : va_P D vwCl (wd ce b kdC lnC (a + 5) I L (r_X6_init (u2 (r_X6_init R (a + 1)) a 0 (a + 1)) (a + 3))) H := hP
  have hz : H.size = b + (a + 5) := hz
  have hF : Fr (a + 5) I L (r_X6_init (u2 (r_X6_init R (a + 1)) a 0 (a + 1)) (a + 3)) := hF
  refine mm_putF (ty := .object "FallingRules$Shares") hx hb hts hown hKK hP (hA _) hS fkc4_1 (Nat.le_of_ble_eq_true rfl) ⟨tyX4_ok, nmX4, rfl, tyX4_ok 1 (by decide)⟩ lkcX4_18 hin rfl (by omega) (hs 0 (by decide)).1 (by have := hab; unfold NUL; omega) rfl rfl dX4_init_23 (fun H locs hP hz1 hS => ?_)
  have hz : H.size = b + (a + 5) := hz1.trans hz
  have hF := hF.upR (k := 1) (v := (a + 3)) (a := a) (by omega)
  have hP : va_P D vwCl (wd ce b kdC lnC (a + 5) I L (u2 (r_X6_init (u2 (r_X6_init R (a + 1)) a 0 (a + 1)) (a + 3)) a 1 (a + 3))) H := hP
  refine lv_aload_n hx hb dX4_init_26 rfl (lv_at hl 0 rfl) ?_
  refine lv_sipush (v := (325 : Int32)) hx hb dX4_init_27 (by decide) ?_
  refine mm_newi (rest := [.ref (b + a)]) (n := (a + 5)) hx hb hts qc149 hKK hP hz hS (hs 5 (by decide)).1 (by decide) (by rw [(hs 5 (by decide)).2]; rfl) (by rw [(hs 5 (by decide)).2]; decide) hF (Nat.le_of_ble_eq_true rfl) (by rw [(hs 5 (by decide)).2]; exact Nat.le_of_ble_eq_true rfl) dX4_init_30 (fun H hP hz hS => ?_)
  rw [(hs 5 (by decide)).2]
  have hF := hF.mono (n' := (a + 6)) (Nat.le_succ _)
  have hP : va_P D vwCl (wd ce b kdC lnC (a + 6) I L (u2 (r_X6_init (u2 (r_X6_init R (a + 1)) a 0 (a + 1)) (a + 3)) a 1 (a + 3))) H := hP
  have hz : H.size = b + (a + 6) := hz
  refine mm_putF (ty := .array .int) hx hb hts hown hKK hP (hA _) hS fkc4_2 (Nat.le_of_ble_eq_true rfl) ⟨tyX4_ok, nmX4, rfl, tyX4_ok 2 (by decide)⟩ lkcX4_21 hin rfl (by omega) (hs 0 (by decide)).1 (by have := hab; unfold NUL; omega) rfl rfl dX4_init_32 (fun H locs hP hz1 hS => ?_)
  have hz : H.size = b + (a + 6) := hz1.trans hz
  have hF := hF.upR (k := 2) (v := (a + 5)) (a := a) (by omega)
  have hP : va_P D vwCl (wd ce b kdC lnC (a + 6) I L (u2 (u2 (r_X6_init (u2 (r_X6_init R (a + 1)) a 0 (a + 1)) (a + 3)) a 1 (a + 3)) a 2 (a + 5))) H := hP
  refine lv_aload_n hx hb dX4_init_35 rfl (lv_at hl 0 rfl) ?_
  refine lv_bipush (v := (60 : Int32)) hx hb dX4_init_36 (by decide) ?_
  refine mm_newl (rest := [.ref (b + a)]) (n := (a + 6)) hx hb hts qc304 hKK hP hz hS (hs 6 (by decide)).1 (by decide) (by rw [(hs 6 (by decide)).2]; rfl) (by rw [(hs 6 (by decide)).2]; decide) hF (Nat.le_of_ble_eq_true rfl) (by rw [(hs 6 (by decide)).2]; exact Nat.le_of_ble_eq_true rfl) dX4_init_38 (fun H hP hz hS => ?_)
  rw [(hs 6 (by decide)).2]
  have hF := hF.mono (n' := (a + 7)) (Nat.le_succ _)
  have hP : va_P D vwCl (wd ce b kdC lnC (a + 7) I L (u2 (u2 (r_X6_init (u2 (r_X6_init R (a + 1)) a 0 (a + 1)) (a + 3)) a 1 (a + 3)) a 2 (a + 5))) H := hP
  have hz : H.size = b + (a + 7) := hz
  refine mm_putF (ty := .array .long) hx hb hts hown hKK hP (hA _) hS fkc4_3 (Nat.le_of_ble_eq_true rfl) ⟨tyX4_ok, nmX4, rfl, tyX4_ok 3 (by decide)⟩ lkcX4_25 hin rfl (by omega) (hs 0 (by decide)).1 (by have := hab; unfold NUL; omega) rfl rfl dX4_init_40 (fun H locs hP hz1 hS => ?_)
  have hz : H.size = b + (a + 7) := hz1.trans hz
  have hF := hF.upR (k := 3) (v := (a + 6)) (a := a) (by omega)
  have hP : va_P D vwCl (wd ce b kdC lnC (a + 7) I L (u2 (u2 (u2 (r_X6_init (u2 (r_X6_init R (a + 1)) a 0 (a + 1)) (a + 3)) a 1 (a + 3)) a 2 (a + 5)) a 3 (a + 6))) H := hP
  refine W.widen (k := 6) (n := 531) (Nat.le_of_ble_eq_true rfl) (Nat.le_of_ble_eq_true rfl) ?_
  exact mm_vretN hx hb hr hlocks hP hz hS dX4_init_43
def rmcX9_init : Room := { frames := 2, cells := 4, slots := 126, locals := 52 }
def r_X9_init (R : mR) (a : Nat) : mR := u2 (u2 (r_X8_init R (a + 1)) a 0 (a + 1)) a 1 (a + 4)
theorem r_X9_init_lt {R : mR} {a x : Nat} (h : x < a) : r_X9_init R a x = R x := by
  unfold r_X9_init
  rw [u2_n _ _ _ (by omega), u2_n _ _ _ (by omega), r_X8_init_lt (by omega)]
theorem fr_X9_init {I : mI} {L : mL} {R : mR} {a : Nat} (hF : Fr (a + 1) I L R) : Fr (a + 5) I L (r_X9_init R a) := by
  unfold r_X9_init
  have hF := hF.mono (n' := a + 2) (by omega)
  have hF := fr_X8_init (a := (a + 1)) hF
  have hF : Fr (a + 4) _ _ _ := hF
  have hF := hF.upR (k := 0) (v := (a + 1)) (a := a) (by omega)
  have hF := hF.mono (n' := a + 5) (by omega)
  have hF := hF.upR (k := 1) (v := (a + 4)) (a := a) (by omega)
  exact hF.mono (by omega)
set_option maxHeartbeats 8000000 in
set_option maxRecDepth 100000 in
theorem c_X9_init (l : Launch) (D : va_G) (ce : Nat → ClassId) (b : Nat) (I : mI) (L : mL) (R : mR) (a : Nat) (hs : ∀ j, j < 5 → kdC (a + j) = kdCl.getD (263 + j) 0 ∧ lnC (a + j) = lnCl.getD (263 + j) 0) (hF : Fr (a + 1) I L R) (hab : a + 5 ≤ 5000) : Met l yX9_init (Cond.code yX9_init cX9_init 1 none :: GW) rmcX9_init (va_Pc [.ref (b + a)] (PN D ce b kdC lnC (a + 1) I L R)) (va_Qv (fun u => u = (I, L, r_X9_init R a)) (QN D ce b kdC lnC (a + 5)) (upA b)) 4 126 (upA b) := by
  refine Met.ofW (cc := cX9_init) (maxL := 1) (ret := none) (by decide) rfl ?_
  intro p e s m args below meth c s₁ B hml hv
  obtain ⟨rfl, hP, hKK, hz, hAO⟩ := hv
  have hx := B.exec
  have hb := B.bytes
  have hr := B.returns
  have hts0 := atoms_spec (ws := Cond.code yX9_init cX9_init 1 none :: GW) B.pre
  have hts : ∀ w ∈ GW, w.before _ s = true := fun w h => hts0 w (List.mem_cons_of_mem _ h)
  clear hts0
  have hown : s.vm.findClass RX9 = some m.cls := findClass_of_methodNamed B.named
  have hlocks := B.notSynchronized
  have hin : meth.name = "<init>" := (name_of_methodNamed B.named B.method).1
  have hA : ∀ n q, box b n q → upA b q := fun _ _ h => h.1
  have hAu : ∀ q, upA b q → upA b q := fun _ h => h
  have hS : va_S (upA b) s.heap s.heap [] := va_S.rf
  have hl := lv_entry ([.ref (b + a)]) (n := 1) (Nat.le_of_ble_eq_true rfl)
  rw [lg_entry_eq]
  generalize (lg_sl ([.ref (b + a)]) ++ List.replicate (1 - (lg_sl ([.ref (b + a)])).length) Slot.unset).toArray = ls at hl ⊢
  have hl : lv_has ls 1 [(0, .ref (b + a))] := hl
  generalize ([.ref (b + a)] : List Value).toArray = av at hts ⊢
  show W p l e rmcX9_init s m av below meth c s.heap [] 0 0 _ _
  refine lv_aload_n hx hb dX9_init_0 rfl (lv_at hl 0 rfl) ?_
  refine W.objInit hx hb hown (hts _ qc343) (hts _ qc101) (hts _ qc102) rfl (by rw [hml]; exact hl.1) rfl dX9_init_1 (Nat.le_of_ble_eq_true rfl) (Nat.le_of_ble_eq_true rfl) ?_
  refine W.eq (g2 := F0 m 4 ls []) rfl ?_
  refine lv_aload_n hx hb dX9_init_4 rfl (lv_at hl 0 rfl) ?_
  refine mm_new (rest := [.ref (b + a)]) (C := RX8) (T := TX8) (N := 3) (ty := tyX8) (n := (a + 1)) hx hb hts hown inGX8 (ci := 8) rfl tyX8_ok ⟨qc344, qc112, qc82⟩ hKK hP hz hS (hs 1 (by decide)).1 hF dfX8 (Nat.le_of_ble_eq_true rfl) (Nat.le_of_ble_eq_true rfl) dX9_init_5 (fun H hP hz hS => ?_)
  have hF := hF.mono (n' := (a + 2)) (Nat.le_succ _)
  have hP : va_P D vwCl (wd ce b kdC lnC (a + 2) I L (R)) H := hP
  have hz : H.size = b + (a + 2) := hz
  refine lv_dup hx hb dX9_init_8 rfl ?_
  refine lv_bipush (v := (60 : Int32)) hx hb dX9_init_9 (by decide) ?_
  refine mm_I (rest := [.ref (b + (a + 1)), .ref (b + a)]) (rm := rmcX8_init 60) hx hb hml hown hts hKK hAO hP hz hS hAu (show IOK RX9 11 yX8_init cX8_init 3 1 from ⟨Or.inl qc345, qc114, qc82, qc115, rfl, by decide +kernel⟩) (c_X8_init l D ce b I L R (a + 1) (60 : Int32) 60 (by decide) (by decide) (by decide) (hs 1 (by decide)).1 (hs 2 (by decide)).1 (hs 3 (by decide)).1 (hs 2 (by decide)).2 (hs 3 (by decide)).2 hF (by have := hab; omega)) rfl hl.1 rfl (Nat.le_of_ble_eq_true rfl) ⟨rfl, rfl⟩ ⟨Nat.le_of_ble_eq_true rfl, Nat.le_of_ble_eq_true rfl⟩ ⟨Nat.le_of_ble_eq_true rfl, Nat.le_of_ble_eq_true rfl⟩ dX9_init_11 (fun H locs hP hz hS => ?_)
  have hF := fr_X8_init hF
  have hP : va_P D vwCl (wd ce b kdC lnC (a + 4) I L (r_X8_init R (a + 1))) H := hP
  have hz : H.size = b + (a + 4) := hz
  have hF : Fr (a + 4) I L (r_X8_init R (a + 1)) := hF
  refine mm_putF (ty := .object "FallingRules$Term") hx hb hts hown hKK hP (hA _) hS fkc9_0 (Nat.le_of_ble_eq_true rfl) ⟨tyX9_ok, nmX9, rfl, tyX9_ok 0 (by decide)⟩ lkcX9_14 hin rfl (by omega) (hs 0 (by decide)).1 (by have := hab; unfold NUL; omega) rfl rfl dX9_init_14 (fun H locs hP hz1 hS => ?_)
  have hz : H.size = b + (a + 4) := hz1.trans hz
  have hF := hF.upR (k := 0) (v := (a + 1)) (a := a) (by omega)
  have hP : va_P D vwCl (wd ce b kdC lnC (a + 4) I L (u2 (r_X8_init R (a + 1)) a 0 (a + 1))) H := hP
  refine lv_aload_n hx hb dX9_init_17 rfl (lv_at hl 0 rfl) ?_
  refine lv_iconst (v := (3 : Int32)) hx hb dX9_init_18 (by decide) ?_
  refine mm_newi (rest := [.ref (b + a)]) (n := (a + 4)) hx hb hts qc149 hKK hP hz hS (hs 4 (by decide)).1 (by decide) (by rw [(hs 4 (by decide)).2]; rfl) (by rw [(hs 4 (by decide)).2]; decide) hF (Nat.le_of_ble_eq_true rfl) (by rw [(hs 4 (by decide)).2]; exact Nat.le_of_ble_eq_true rfl) dX9_init_19 (fun H hP hz hS => ?_)
  rw [(hs 4 (by decide)).2]
  have hF := hF.mono (n' := (a + 5)) (Nat.le_succ _)
  have hP : va_P D vwCl (wd ce b kdC lnC (a + 5) I L (u2 (r_X8_init R (a + 1)) a 0 (a + 1))) H := hP
  have hz : H.size = b + (a + 5) := hz
  refine mm_putF (ty := .array .int) hx hb hts hown hKK hP (hA _) hS fkc9_1 (Nat.le_of_ble_eq_true rfl) ⟨tyX9_ok, nmX9, rfl, tyX9_ok 1 (by decide)⟩ lkcX9_20 hin rfl (by omega) (hs 0 (by decide)).1 (by have := hab; unfold NUL; omega) rfl rfl dX9_init_21 (fun H locs hP hz1 hS => ?_)
  have hz : H.size = b + (a + 5) := hz1.trans hz
  have hF := hF.upR (k := 1) (v := (a + 4)) (a := a) (by omega)
  have hP : va_P D vwCl (wd ce b kdC lnC (a + 5) I L (u2 (u2 (r_X8_init R (a + 1)) a 0 (a + 1)) a 1 (a + 4))) H := hP
  refine W.widen (k := 4) (n := 126) (Nat.le_of_ble_eq_true rfl) (Nat.le_of_ble_eq_true rfl) ?_
  exact mm_vretN hx hb hr hlocks hP hz hS dX9_init_24
def rmcX10_init : Room := { frames := 5, cells := 271, slots := 3929, locals := 114 }
set_option maxHeartbeats 8000000 in
set_option maxRecDepth 100000 in
theorem c_X10_init (l : Launch) (D : va_G) (ce : Nat → ClassId) (b : Nat) (hF : Fr 1 I0 L0 R0) (R1 : mR) (hfix : ∀ x, x < 272 → ∀ k, ((kdC x = 4 ∨ kdC x = 5) → k < lnC x → (u2 (u2 (r_X8_init (u2 (r_X9_init (u2 (r_X4_init (u2 (r_X0_init (u2 (r_X5_init (u2 (r_X2_init (u2 (r_X1_init (u2 (r_X7_init R0 1) 0 0 1) 41) 0 1 41) 243) 0 2 243) 246) 0 3 246) 248) 0 4 248) 256) 0 5 256) 263) 0 6 263) 268) 0 7 268) 0 8 271) x k = R1 x k) ∧ (¬ (kdC x = 4 ∨ kdC x = 5) → (u2 (u2 (r_X8_init (u2 (r_X9_init (u2 (r_X4_init (u2 (r_X0_init (u2 (r_X5_init (u2 (r_X2_init (u2 (r_X1_init (u2 (r_X7_init R0 1) 0 0 1) 41) 0 1 41) 243) 0 2 243) 246) 0 3 246) 248) 0 4 248) 256) 0 5 256) 263) 0 6 263) 268) 0 7 268) 0 8 271) x k = R1 x k)) (hT : WT kdC R1) (I2 : mI) (hf : f_X8_startAs 3 97 (u2 I0 0 11 (-9 : Int32)) R1 = some I2) : Met l yX10_init (Cond.code yX10_init cX10_init 1 none :: GW) rmcX10_init (va_Pc [.ref (b + 0)] (PN D ce b kdC lnC 1 I0 L0 R0)) (va_Qv (fun u => u = (I2, L0, R1)) (QW D ce b kdC lnC 272) (upA b)) 271 3929 (upA b) := by
  refine Met.ofW (cc := cX10_init) (maxL := 1) (ret := none) (by decide) rfl ?_
  intro p e s m args below meth c s₁ B hml hv
  obtain ⟨rfl, hP, hKK, hz, hAO⟩ := hv
  have hx := B.exec
  have hb := B.bytes
  have hr := B.returns
  have hts0 := atoms_spec (ws := Cond.code yX10_init cX10_init 1 none :: GW) B.pre
  have hts : ∀ w ∈ GW, w.before _ s = true := fun w h => hts0 w (List.mem_cons_of_mem _ h)
  clear hts0
  have hown : s.vm.findClass RX10 = some m.cls := findClass_of_methodNamed B.named
  have hlocks := B.notSynchronized
  have hin : meth.name = "<init>" := (name_of_methodNamed B.named B.method).1
  have hA : ∀ n q, box b n q → upA b q := fun _ _ h => h.1
  have hAu : ∀ q, upA b q → upA b q := fun _ h => h
  have hS : va_S (upA b) s.heap s.heap [] := va_S.rf
  have hl := lv_entry ([.ref (b + 0)]) (n := 1) (Nat.le_of_ble_eq_true rfl)
  rw [lg_entry_eq]
  generalize (lg_sl ([.ref (b + 0)]) ++ List.replicate (1 - (lg_sl ([.ref (b + 0)])).length) Slot.unset).toArray = ls at hl ⊢
  have hl : lv_has ls 1 [(0, .ref (b + 0))] := hl
  generalize ([.ref (b + 0)] : List Value).toArray = av at hts ⊢
  show W p l e rmcX10_init s m av below meth c s.heap [] 0 0 _ _
  refine lv_aload_n hx hb dX10_init_0 rfl (lv_at hl 0 rfl) ?_
  refine W.objInit hx hb hown (hts _ qc100) (hts _ qc101) (hts _ qc102) rfl (by rw [hml]; exact hl.1) rfl dX10_init_1 (Nat.le_of_ble_eq_true rfl) (Nat.le_of_ble_eq_true rfl) ?_
  refine W.eq (g2 := F0 m 4 ls []) rfl ?_
  refine lv_aload_n hx hb dX10_init_4 rfl (lv_at hl 0 rfl) ?_
  refine mm_new (rest := [.ref (b + 0)]) (C := RX7) (T := TX7) (N := 3) (ty := tyX7) (n := 1) hx hb hts hown inGX7 (ci := 7) rfl tyX7_ok ⟨qc103, qc104, qc81⟩ hKK hP hz hS (rfl : kdC 1 = 13) hF dfX7 (Nat.le_of_ble_eq_true rfl) (Nat.le_of_ble_eq_true rfl) dX10_init_5 (fun H hP hz hS => ?_)
  have hF := hF.mono (n' := 2) (Nat.le_succ _)
  have hP : va_P D vwCl (wd ce b kdC lnC 2 I0 L0 (R0)) H := hP
  have hz : H.size = b + 2 := hz
  refine lv_dup hx hb dX10_init_8 rfl ?_
  refine mm_I (rest := [.ref (b + 1), .ref (b + 0)]) (rm := rmcX7_init) hx hb hml hown hts hKK hAO hP hz hS hAu (show IOK RX10 9 yX7_init cX7_init 2 0 from ⟨Or.inl qc105, qc106, qc81, qc107, rfl, by decide +kernel⟩) (c_X7_init l D ce b I0 L0 R0 1 (by decide +kernel) hF (by decide)) rfl hl.1 rfl (Nat.le_of_ble_eq_true rfl) ⟨rfl, rfl⟩ ⟨Nat.le_of_ble_eq_true rfl, Nat.le_of_ble_eq_true rfl⟩ ⟨Nat.le_of_ble_eq_true rfl, Nat.le_of_ble_eq_true rfl⟩ dX10_init_9 (fun H locs hP hz hS => ?_)
  have hF := fr_X7_init hF
  have hP : va_P D vwCl (wd ce b kdC lnC 41 I0 L0 (r_X7_init R0 1)) H := hP
  have hz : H.size = b + 41 := hz
  have hF : Fr 41 I0 L0 (r_X7_init R0 1) := hF
  refine mm_putF (ty := .object "FallingRules$State") hx hb hts hown hKK hP (hA _) hS fkc10_0 (Nat.le_of_ble_eq_true rfl) ⟨tyX10_ok, nmX10, rfl, tyX10_ok 0 (by decide)⟩ lkcX10_10 hin rfl (by decide) (rfl : kdC 0 = 16) (by decide) rfl rfl dX10_init_12 (fun H locs hP hz1 hS => ?_)
  have hz : H.size = b + 41 := hz1.trans hz
  have hF := hF.upR (k := 0) (v := 1) (a := 0) (by decide)
  have hP : va_P D vwCl (wd ce b kdC lnC 41 I0 L0 (u2 (r_X7_init R0 1) 0 0 1)) H := hP
  refine lv_aload_n hx hb dX10_init_15 rfl (lv_at hl 0 rfl) ?_
  refine mm_new (rest := [.ref (b + 0)]) (C := RX1) (T := TX1) (N := 2) (ty := tyX1) (n := 41) hx hb hts hown inGX1 (ci := 1) rfl tyX1_ok ⟨qc197, qc198, qc85⟩ hKK hP hz hS (rfl : kdC 41 = 7) hF dfX1 (Nat.le_of_ble_eq_true rfl) (Nat.le_of_ble_eq_true rfl) dX10_init_16 (fun H hP hz hS => ?_)
  have hF := hF.mono (n' := 42) (Nat.le_succ _)
  have hP : va_P D vwCl (wd ce b kdC lnC 42 I0 L0 (u2 (r_X7_init R0 1) 0 0 1)) H := hP
  have hz : H.size = b + 42 := hz
  refine lv_dup hx hb dX10_init_19 rfl ?_
  refine mm_I (rest := [.ref (b + 41), .ref (b + 0)]) (rm := rmcX1_init) hx hb hml hown hts hKK hAO hP hz hS hAu (show IOK RX10 18 yX1_init cX1_init 2 0 from ⟨Or.inl qc199, qc200, qc85, qc201, rfl, by decide +kernel⟩) (c_X1_init l D ce b I0 L0 (u2 (r_X7_init R0 1) 0 0 1) 41 (by decide +kernel) hF (by decide)) rfl hl.1 rfl (Nat.le_of_ble_eq_true rfl) ⟨rfl, rfl⟩ ⟨Nat.le_of_ble_eq_true rfl, Nat.le_of_ble_eq_true rfl⟩ ⟨Nat.le_of_ble_eq_true rfl, Nat.le_of_ble_eq_true rfl⟩ dX10_init_20 (fun H locs hP hz hS => ?_)
  have hF := fr_X1_init hF
  have hP : va_P D vwCl (wd ce b kdC lnC 243 I0 L0 (r_X1_init (u2 (r_X7_init R0 1) 0 0 1) 41)) H := hP
  have hz : H.size = b + 243 := hz
  have hF : Fr 243 I0 L0 (r_X1_init (u2 (r_X7_init R0 1) 0 0 1) 41) := hF
  refine mm_putF (ty := .object "FallingRules$History") hx hb hts hown hKK hP (hA _) hS fkc10_1 (Nat.le_of_ble_eq_true rfl) ⟨tyX10_ok, nmX10, rfl, tyX10_ok 1 (by decide)⟩ lkcX10_19 hin rfl (by decide) (rfl : kdC 0 = 16) (by decide) rfl rfl dX10_init_23 (fun H locs hP hz1 hS => ?_)
  have hz : H.size = b + 243 := hz1.trans hz
  have hF := hF.upR (k := 1) (v := 41) (a := 0) (by decide)
  have hP : va_P D vwCl (wd ce b kdC lnC 243 I0 L0 (u2 (r_X1_init (u2 (r_X7_init R0 1) 0 0 1) 41) 0 1 41)) H := hP
  refine lv_aload_n hx hb dX10_init_26 rfl (lv_at hl 0 rfl) ?_
  refine mm_new (rest := [.ref (b + 0)]) (C := RX2) (T := TX2) (N := 5) (ty := tyX2) (n := 243) hx hb hts hown inGX2 (ci := 2) rfl tyX2_ok ⟨qc214, qc215, qc86⟩ hKK hP hz hS (rfl : kdC 243 = 8) hF dfX2 (Nat.le_of_ble_eq_true rfl) (Nat.le_of_ble_eq_true rfl) dX10_init_27 (fun H hP hz hS => ?_)
  have hF := hF.mono (n' := 244) (Nat.le_succ _)
  have hP : va_P D vwCl (wd ce b kdC lnC 244 I0 L0 (u2 (r_X1_init (u2 (r_X7_init R0 1) 0 0 1) 41) 0 1 41)) H := hP
  have hz : H.size = b + 244 := hz
  refine lv_dup hx hb dX10_init_30 rfl ?_
  refine mm_I (rest := [.ref (b + 243), .ref (b + 0)]) (rm := rmcX2_init) hx hb hml hown hts hKK hAO hP hz hS hAu (show IOK RX10 25 yX2_init cX2_init 1 0 from ⟨Or.inr (List.mem_of_getElem? (i := 1) rfl), qc217, qc86, qc218, rfl, by decide +kernel⟩) (c_X2_init l D ce b I0 L0 (u2 (r_X1_init (u2 (r_X7_init R0 1) 0 0 1) 41) 0 1 41) 243 (by decide +kernel) hF (by decide)) rfl hl.1 rfl (Nat.le_of_ble_eq_true rfl) ⟨rfl, rfl⟩ ⟨Nat.le_of_ble_eq_true rfl, Nat.le_of_ble_eq_true rfl⟩ ⟨Nat.le_of_ble_eq_true rfl, Nat.le_of_ble_eq_true rfl⟩ dX10_init_31 (fun H locs hP hz hS => ?_)
  have hF := fr_X2_init hF
  have hP : va_P D vwCl (wd ce b kdC lnC 246 I0 L0 (r_X2_init (u2 (r_X1_init (u2 (r_X7_init R0 1) 0 0 1) 41) 0 1 41) 243)) H := hP
  have hz : H.size = b + 246 := hz
  have hF : Fr 246 I0 L0 (r_X2_init (u2 (r_X1_init (u2 (r_X7_init R0 1) 0 0 1) 41) 0 1 41) 243) := hF
  refine mm_putF (ty := .object "FallingRules$Reader") hx hb hts hown hKK hP (hA _) hS fkc10_2 (Nat.le_of_ble_eq_true rfl) ⟨tyX10_ok, nmX10, rfl, tyX10_ok 2 (by decide)⟩ lkcX10_26 hin rfl (by decide) (rfl : kdC 0 = 16) (by decide) rfl rfl dX10_init_34 (fun H locs hP hz1 hS => ?_)
  have hz : H.size = b + 246 := hz1.trans hz
  have hF := hF.upR (k := 2) (v := 243) (a := 0) (by decide)
  have hP : va_P D vwCl (wd ce b kdC lnC 246 I0 L0 (u2 (r_X2_init (u2 (r_X1_init (u2 (r_X7_init R0 1) 0 0 1) 41) 0 1 41) 243) 0 2 243)) H := hP
  refine lv_aload_n hx hb dX10_init_37 rfl (lv_at hl 0 rfl) ?_
  refine mm_new (rest := [.ref (b + 0)]) (C := RX5) (T := TX5) (N := 2) (ty := tyX5) (n := 246) hx hb hts hown inGX5 (ci := 5) rfl tyX5_ok ⟨qc238, qc239, qc87⟩ hKK hP hz hS (rfl : kdC 246 = 11) hF dfX5 (Nat.le_of_ble_eq_true rfl) (Nat.le_of_ble_eq_true rfl) dX10_init_38 (fun H hP hz hS => ?_)
  have hF := hF.mono (n' := 247) (Nat.le_succ _)
  have hP : va_P D vwCl (wd ce b kdC lnC 247 I0 L0 (u2 (r_X2_init (u2 (r_X1_init (u2 (r_X7_init R0 1) 0 0 1) 41) 0 1 41) 243) 0 2 243)) H := hP
  have hz : H.size = b + 247 := hz
  refine lv_dup hx hb dX10_init_41 rfl ?_
  refine mm_I (rest := [.ref (b + 246), .ref (b + 0)]) (rm := rmcX5_init) hx hb hml hown hts hKK hAO hP hz hS hAu (show IOK RX10 32 yX5_init cX5_init 1 0 from ⟨Or.inr (List.mem_of_getElem? (i := 2) rfl), qc241, qc87, qc242, rfl, by decide +kernel⟩) (c_X5_init l D ce b I0 L0 (u2 (r_X2_init (u2 (r_X1_init (u2 (r_X7_init R0 1) 0 0 1) 41) 0 1 41) 243) 0 2 243) 246 (by decide +kernel) hF (by decide)) rfl hl.1 rfl (Nat.le_of_ble_eq_true rfl) ⟨rfl, rfl⟩ ⟨Nat.le_of_ble_eq_true rfl, Nat.le_of_ble_eq_true rfl⟩ ⟨Nat.le_of_ble_eq_true rfl, Nat.le_of_ble_eq_true rfl⟩ dX10_init_42 (fun H locs hP hz hS => ?_)
  have hF := fr_X5_init hF
  have hP : va_P D vwCl (wd ce b kdC lnC 248 I0 L0 (r_X5_init (u2 (r_X2_init (u2 (r_X1_init (u2 (r_X7_init R0 1) 0 0 1) 41) 0 1 41) 243) 0 2 243) 246)) H := hP
  have hz : H.size = b + 248 := hz
  have hF : Fr 248 I0 L0 (r_X5_init (u2 (r_X2_init (u2 (r_X1_init (u2 (r_X7_init R0 1) 0 0 1) 41) 0 1 41) 243) 0 2 243) 246) := hF
  refine mm_putF (ty := .object "FallingRules$Script") hx hb hts hown hKK hP (hA _) hS fkc10_3 (Nat.le_of_ble_eq_true rfl) ⟨tyX10_ok, nmX10, rfl, tyX10_ok 3 (by decide)⟩ lkcX10_33 hin rfl (by decide) (rfl : kdC 0 = 16) (by decide) rfl rfl dX10_init_45 (fun H locs hP hz1 hS => ?_)
  have hz : H.size = b + 248 := hz1.trans hz
  have hF := hF.upR (k := 3) (v := 246) (a := 0) (by decide)
  have hP : va_P D vwCl (wd ce b kdC lnC 248 I0 L0 (u2 (r_X5_init (u2 (r_X2_init (u2 (r_X1_init (u2 (r_X7_init R0 1) 0 0 1) 41) 0 1 41) 243) 0 2 243) 246) 0 3 246)) H := hP
  refine lv_aload_n hx hb dX10_init_48 rfl (lv_at hl 0 rfl) ?_
  refine mm_new (rest := [.ref (b + 0)]) (C := RX0) (T := TX0) (N := 11) (ty := tyX0) (n := 248) hx hb hts hown inGX0 (ci := 0) rfl tyX0_ok ⟨qc253, qc254, qc88⟩ hKK hP hz hS (rfl : kdC 248 = 6) hF dfX0 (Nat.le_of_ble_eq_true rfl) (Nat.le_of_ble_eq_true rfl) dX10_init_49 (fun H hP hz hS => ?_)
  have hF := hF.mono (n' := 249) (Nat.le_succ _)
  have hP : va_P D vwCl (wd ce b kdC lnC 249 I0 L0 (u2 (r_X5_init (u2 (r_X2_init (u2 (r_X1_init (u2 (r_X7_init R0 1) 0 0 1) 41) 0 1 41) 243) 0 2 243) 246) 0 3 246)) H := hP
  have hz : H.size = b + 249 := hz
  refine lv_dup hx hb dX10_init_52 rfl ?_
  refine mm_I (rest := [.ref (b + 248), .ref (b + 0)]) (rm := rmcX0_init) hx hb hml hown hts hKK hAO hP hz hS hAu (show IOK RX10 39 yX0_init cX0_init 1 0 from ⟨Or.inr (List.mem_of_getElem? (i := 3) rfl), qc256, qc88, qc257, rfl, by decide +kernel⟩) (c_X0_init l D ce b I0 L0 (u2 (r_X5_init (u2 (r_X2_init (u2 (r_X1_init (u2 (r_X7_init R0 1) 0 0 1) 41) 0 1 41) 243) 0 2 243) 246) 0 3 246) 248 (by decide +kernel) hF (by decide)) rfl hl.1 rfl (Nat.le_of_ble_eq_true rfl) ⟨rfl, rfl⟩ ⟨Nat.le_of_ble_eq_true rfl, Nat.le_of_ble_eq_true rfl⟩ ⟨Nat.le_of_ble_eq_true rfl, Nat.le_of_ble_eq_true rfl⟩ dX10_init_53 (fun H locs hP hz hS => ?_)
  have hF := fr_X0_init hF
  have hP : va_P D vwCl (wd ce b kdC lnC 256 I0 L0 (r_X0_init (u2 (r_X5_init (u2 (r_X2_init (u2 (r_X1_init (u2 (r_X7_init R0 1) 0 0 1) 41) 0 1 41) 243) 0 2 243) 246) 0 3 246) 248)) H := hP
  have hz : H.size = b + 256 := hz
  have hF : Fr 256 I0 L0 (r_X0_init (u2 (r_X5_init (u2 (r_X2_init (u2 (r_X1_init (u2 (r_X7_init R0 1) 0 0 1) 41) 0 1 41) 243) 0 2 243) 246) 0 3 246) 248) := hF
  refine mm_putF (ty := .object "FallingRules$CallBook") hx hb hts hown hKK hP (hA _) hS fkc10_4 (Nat.le_of_ble_eq_true rfl) ⟨tyX10_ok, nmX10, rfl, tyX10_ok 4 (by decide)⟩ lkcX10_40 hin rfl (by decide) (rfl : kdC 0 = 16) (by decide) rfl rfl dX10_init_56 (fun H locs hP hz1 hS => ?_)
  have hz : H.size = b + 256 := hz1.trans hz
  have hF := hF.upR (k := 4) (v := 248) (a := 0) (by decide)
  have hP : va_P D vwCl (wd ce b kdC lnC 256 I0 L0 (u2 (r_X0_init (u2 (r_X5_init (u2 (r_X2_init (u2 (r_X1_init (u2 (r_X7_init R0 1) 0 0 1) 41) 0 1 41) 243) 0 2 243) 246) 0 3 246) 248) 0 4 248)) H := hP
  refine lv_aload_n hx hb dX10_init_59 rfl (lv_at hl 0 rfl) ?_
  refine mm_new (rest := [.ref (b + 0)]) (C := RX4) (T := TX4) (N := 5) (ty := tyX4) (n := 256) hx hb hts hown inGX4 (ci := 4) rfl tyX4_ok ⟨qc305, qc306, qc89⟩ hKK hP hz hS (rfl : kdC 256 = 10) hF dfX4 (Nat.le_of_ble_eq_true rfl) (Nat.le_of_ble_eq_true rfl) dX10_init_60 (fun H hP hz hS => ?_)
  have hF := hF.mono (n' := 257) (Nat.le_succ _)
  have hP : va_P D vwCl (wd ce b kdC lnC 257 I0 L0 (u2 (r_X0_init (u2 (r_X5_init (u2 (r_X2_init (u2 (r_X1_init (u2 (r_X7_init R0 1) 0 0 1) 41) 0 1 41) 243) 0 2 243) 246) 0 3 246) 248) 0 4 248)) H := hP
  have hz : H.size = b + 257 := hz
  refine lv_dup hx hb dX10_init_63 rfl ?_
  refine mm_I (rest := [.ref (b + 256), .ref (b + 0)]) (rm := rmcX4_init) hx hb hml hown hts hKK hAO hP hz hS hAu (show IOK RX10 46 yX4_init cX4_init 1 0 from ⟨Or.inr (List.mem_of_getElem? (i := 4) rfl), qc308, qc89, qc309, rfl, by decide +kernel⟩) (c_X4_init l D ce b I0 L0 (u2 (r_X0_init (u2 (r_X5_init (u2 (r_X2_init (u2 (r_X1_init (u2 (r_X7_init R0 1) 0 0 1) 41) 0 1 41) 243) 0 2 243) 246) 0 3 246) 248) 0 4 248) 256 (by decide +kernel) hF (by decide)) rfl hl.1 rfl (Nat.le_of_ble_eq_true rfl) ⟨rfl, rfl⟩ ⟨Nat.le_of_ble_eq_true rfl, Nat.le_of_ble_eq_true rfl⟩ ⟨Nat.le_of_ble_eq_true rfl, Nat.le_of_ble_eq_true rfl⟩ dX10_init_64 (fun H locs hP hz hS => ?_)
  have hF := fr_X4_init hF
  have hP : va_P D vwCl (wd ce b kdC lnC 263 I0 L0 (r_X4_init (u2 (r_X0_init (u2 (r_X5_init (u2 (r_X2_init (u2 (r_X1_init (u2 (r_X7_init R0 1) 0 0 1) 41) 0 1 41) 243) 0 2 243) 246) 0 3 246) 248) 0 4 248) 256)) H := hP
  have hz : H.size = b + 263 := hz
  have hF : Fr 263 I0 L0 (r_X4_init (u2 (r_X0_init (u2 (r_X5_init (u2 (r_X2_init (u2 (r_X1_init (u2 (r_X7_init R0 1) 0 0 1) 41) 0 1 41) 243) 0 2 243) 246) 0 3 246) 248) 0 4 248) 256) := hF
  refine mm_putF (ty := .object "FallingRules$Scales") hx hb hts hown hKK hP (hA _) hS fkc10_5 (Nat.le_of_ble_eq_true rfl) ⟨tyX10_ok, nmX10, rfl, tyX10_ok 5 (by decide)⟩ lkcX10_47 hin rfl (by decide) (rfl : kdC 0 = 16) (by decide) rfl rfl dX10_init_67 (fun H locs hP hz1 hS => ?_)
  have hz : H.size = b + 263 := hz1.trans hz
  have hF := hF.upR (k := 5) (v := 256) (a := 0) (by decide)
  have hP : va_P D vwCl (wd ce b kdC lnC 263 I0 L0 (u2 (r_X4_init (u2 (r_X0_init (u2 (r_X5_init (u2 (r_X2_init (u2 (r_X1_init (u2 (r_X7_init R0 1) 0 0 1) 41) 0 1 41) 243) 0 2 243) 246) 0 3 246) 248) 0 4 248) 256) 0 5 256)) H := hP
  refine lv_aload_n hx hb dX10_init_70 rfl (lv_at hl 0 rfl) ?_
  refine mm_new (rest := [.ref (b + 0)]) (C := RX9) (T := TX9) (N := 4) (ty := tyX9) (n := 263) hx hb hts hown inGX9 (ci := 9) rfl tyX9_ok ⟨qc338, qc339, qc91⟩ hKK hP hz hS (rfl : kdC 263 = 15) hF dfX9 (Nat.le_of_ble_eq_true rfl) (Nat.le_of_ble_eq_true rfl) dX10_init_71 (fun H hP hz hS => ?_)
  have hF := hF.mono (n' := 264) (Nat.le_succ _)
  have hP : va_P D vwCl (wd ce b kdC lnC 264 I0 L0 (u2 (r_X4_init (u2 (r_X0_init (u2 (r_X5_init (u2 (r_X2_init (u2 (r_X1_init (u2 (r_X7_init R0 1) 0 0 1) 41) 0 1 41) 243) 0 2 243) 246) 0 3 246) 248) 0 4 248) 256) 0 5 256)) H := hP
  have hz : H.size = b + 264 := hz
  refine lv_dup hx hb dX10_init_74 rfl ?_
  refine mm_I (rest := [.ref (b + 263), .ref (b + 0)]) (rm := rmcX9_init) hx hb hml hown hts hKK hAO hP hz hS hAu (show IOK RX10 53 yX9_init cX9_init 1 0 from ⟨Or.inr (List.mem_of_getElem? (i := 6) rfl), qc341, qc91, qc342, rfl, by decide +kernel⟩) (c_X9_init l D ce b I0 L0 (u2 (r_X4_init (u2 (r_X0_init (u2 (r_X5_init (u2 (r_X2_init (u2 (r_X1_init (u2 (r_X7_init R0 1) 0 0 1) 41) 0 1 41) 243) 0 2 243) 246) 0 3 246) 248) 0 4 248) 256) 0 5 256) 263 (by decide +kernel) hF (by decide)) rfl hl.1 rfl (Nat.le_of_ble_eq_true rfl) ⟨rfl, rfl⟩ ⟨Nat.le_of_ble_eq_true rfl, Nat.le_of_ble_eq_true rfl⟩ ⟨Nat.le_of_ble_eq_true rfl, Nat.le_of_ble_eq_true rfl⟩ dX10_init_75 (fun H locs hP hz hS => ?_)
  have hF := fr_X9_init hF
  have hP : va_P D vwCl (wd ce b kdC lnC 268 I0 L0 (r_X9_init (u2 (r_X4_init (u2 (r_X0_init (u2 (r_X5_init (u2 (r_X2_init (u2 (r_X1_init (u2 (r_X7_init R0 1) 0 0 1) 41) 0 1 41) 243) 0 2 243) 246) 0 3 246) 248) 0 4 248) 256) 0 5 256) 263)) H := hP
  have hz : H.size = b + 268 := hz
  have hF : Fr 268 I0 L0 (r_X9_init (u2 (r_X4_init (u2 (r_X0_init (u2 (r_X5_init (u2 (r_X2_init (u2 (r_X1_init (u2 (r_X7_init R0 1) 0 0 1) 41) 0 1 41) 243) 0 2 243) 246) 0 3 246) 248) 0 4 248) 256) 0 5 256) 263) := hF
  refine mm_putF (ty := .object "FallingRules$Turner") hx hb hts hown hKK hP (hA _) hS fkc10_6 (Nat.le_of_ble_eq_true rfl) ⟨tyX10_ok, nmX10, rfl, tyX10_ok 6 (by decide)⟩ lkcX10_54 hin rfl (by decide) (rfl : kdC 0 = 16) (by decide) rfl rfl dX10_init_78 (fun H locs hP hz1 hS => ?_)
  have hz : H.size = b + 268 := hz1.trans hz
  have hF := hF.upR (k := 6) (v := 263) (a := 0) (by decide)
  have hP : va_P D vwCl (wd ce b kdC lnC 268 I0 L0 (u2 (r_X9_init (u2 (r_X4_init (u2 (r_X0_init (u2 (r_X5_init (u2 (r_X2_init (u2 (r_X1_init (u2 (r_X7_init R0 1) 0 0 1) 41) 0 1 41) 243) 0 2 243) 246) 0 3 246) 248) 0 4 248) 256) 0 5 256) 263) 0 6 263)) H := hP
  refine lv_aload_n hx hb dX10_init_81 rfl (lv_at hl 0 rfl) ?_
  refine mm_new (rest := [.ref (b + 0)]) (C := RX8) (T := TX8) (N := 3) (ty := tyX8) (n := 268) hx hb hts hown inGX8 (ci := 8) rfl tyX8_ok ⟨qc361, qc112, qc82⟩ hKK hP hz hS (rfl : kdC 268 = 14) hF dfX8 (Nat.le_of_ble_eq_true rfl) (Nat.le_of_ble_eq_true rfl) dX10_init_82 (fun H hP hz hS => ?_)
  have hF := hF.mono (n' := 269) (Nat.le_succ _)
  have hP : va_P D vwCl (wd ce b kdC lnC 269 I0 L0 (u2 (r_X9_init (u2 (r_X4_init (u2 (r_X0_init (u2 (r_X5_init (u2 (r_X2_init (u2 (r_X1_init (u2 (r_X7_init R0 1) 0 0 1) 41) 0 1 41) 243) 0 2 243) 246) 0 3 246) 248) 0 4 248) 256) 0 5 256) 263) 0 6 263)) H := hP
  have hz : H.size = b + 269 := hz
  refine lv_dup hx hb dX10_init_85 rfl ?_
  refine lv_bipush (v := (60 : Int32)) hx hb dX10_init_86 (by decide) ?_
  refine mm_I (rest := [.ref (b + 268), .ref (b + 0)]) (rm := rmcX8_init 60) hx hb hml hown hts hKK hAO hP hz hS hAu (show IOK RX10 60 yX8_init cX8_init 3 1 from ⟨Or.inl qc362, qc114, qc82, qc115, rfl, by decide +kernel⟩) (c_X8_init l D ce b I0 L0 (u2 (r_X9_init (u2 (r_X4_init (u2 (r_X0_init (u2 (r_X5_init (u2 (r_X2_init (u2 (r_X1_init (u2 (r_X7_init R0 1) 0 0 1) 41) 0 1 41) 243) 0 2 243) 246) 0 3 246) 248) 0 4 248) 256) 0 5 256) 263) 0 6 263) 268 (60 : Int32) 60 (by decide) (by decide) (by decide) (rfl : kdC 268 = 14) (rfl : kdC 269 = 1) (rfl : kdC 270 = 1) (rfl : lnC 269 = 60) (rfl : lnC 270 = 60) hF (by decide)) rfl hl.1 rfl (Nat.le_of_ble_eq_true rfl) ⟨rfl, rfl⟩ ⟨Nat.le_of_ble_eq_true rfl, Nat.le_of_ble_eq_true rfl⟩ ⟨Nat.le_of_ble_eq_true rfl, Nat.le_of_ble_eq_true rfl⟩ dX10_init_88 (fun H locs hP hz hS => ?_)
  have hF := fr_X8_init hF
  have hP : va_P D vwCl (wd ce b kdC lnC 271 I0 L0 (r_X8_init (u2 (r_X9_init (u2 (r_X4_init (u2 (r_X0_init (u2 (r_X5_init (u2 (r_X2_init (u2 (r_X1_init (u2 (r_X7_init R0 1) 0 0 1) 41) 0 1 41) 243) 0 2 243) 246) 0 3 246) 248) 0 4 248) 256) 0 5 256) 263) 0 6 263) 268)) H := hP
  have hz : H.size = b + 271 := hz
  have hF : Fr 271 I0 L0 (r_X8_init (u2 (r_X9_init (u2 (r_X4_init (u2 (r_X0_init (u2 (r_X5_init (u2 (r_X2_init (u2 (r_X1_init (u2 (r_X7_init R0 1) 0 0 1) 41) 0 1 41) 243) 0 2 243) 246) 0 3 246) 248) 0 4 248) 256) 0 5 256) 263) 0 6 263) 268) := hF
  refine mm_putF (ty := .object "FallingRules$Term") hx hb hts hown hKK hP (hA _) hS fkc10_7 (Nat.le_of_ble_eq_true rfl) ⟨tyX10_ok, nmX10, rfl, tyX10_ok 7 (by decide)⟩ lkcX10_63 hin rfl (by decide) (rfl : kdC 0 = 16) (by decide) rfl rfl dX10_init_91 (fun H locs hP hz1 hS => ?_)
  have hz : H.size = b + 271 := hz1.trans hz
  have hF := hF.upR (k := 7) (v := 268) (a := 0) (by decide)
  have hP : va_P D vwCl (wd ce b kdC lnC 271 I0 L0 (u2 (r_X8_init (u2 (r_X9_init (u2 (r_X4_init (u2 (r_X0_init (u2 (r_X5_init (u2 (r_X2_init (u2 (r_X1_init (u2 (r_X7_init R0 1) 0 0 1) 41) 0 1 41) 243) 0 2 243) 246) 0 3 246) 248) 0 4 248) 256) 0 5 256) 263) 0 6 263) 268) 0 7 268)) H := hP
  refine lv_aload_n hx hb dX10_init_94 rfl (lv_at hl 0 rfl) ?_
  refine lv_bipush (v := (7 : Int32)) hx hb dX10_init_95 (by decide) ?_
  refine mm_newi (rest := [.ref (b + 0)]) (n := 271) hx hb hts qc149 hKK hP hz hS (rfl : kdC 271 = 1) (by decide) rfl (Nat.le_of_ble_eq_true rfl) hF (Nat.le_of_ble_eq_true rfl) (Nat.le_of_ble_eq_true rfl) dX10_init_97 (fun H hP hz hS => ?_)
  have hF := hF.mono (n' := 272) (Nat.le_succ _)
  have hP : va_P D vwCl (wd ce b kdC lnC 272 I0 L0 (u2 (r_X8_init (u2 (r_X9_init (u2 (r_X4_init (u2 (r_X0_init (u2 (r_X5_init (u2 (r_X2_init (u2 (r_X1_init (u2 (r_X7_init R0 1) 0 0 1) 41) 0 1 41) 243) 0 2 243) 246) 0 3 246) 248) 0 4 248) 256) 0 5 256) 263) 0 6 263) 268) 0 7 268)) H := hP
  have hz : H.size = b + 272 := hz
  refine mm_putF (ty := .array .int) hx hb hts hown hKK hP (hA _) hS fkc10_8 (Nat.le_of_ble_eq_true rfl) ⟨tyX10_ok, nmX10, rfl, tyX10_ok 8 (by decide)⟩ lkcX10_67 hin rfl (by decide) (rfl : kdC 0 = 16) (by decide) rfl rfl dX10_init_99 (fun H locs hP hz1 hS => ?_)
  have hz : H.size = b + 272 := hz1.trans hz
  have hF := hF.upR (k := 8) (v := 271) (a := 0) (by decide)
  have hP : va_P D vwCl (wd ce b kdC lnC 272 I0 L0 (u2 (u2 (r_X8_init (u2 (r_X9_init (u2 (r_X4_init (u2 (r_X0_init (u2 (r_X5_init (u2 (r_X2_init (u2 (r_X1_init (u2 (r_X7_init R0 1) 0 0 1) 41) 0 1 41) 243) 0 2 243) 246) 0 3 246) 248) 0 4 248) 256) 0 5 256) 263) 0 6 263) 268) 0 7 268) 0 8 271)) H := hP
  refine lv_aload_n hx hb dX10_init_102 rfl (lv_at hl 0 rfl) ?_
  refine lv_bipush (v := (-9 : Int32)) hx hb dX10_init_103 (by decide) ?_
  refine mm_puti hx hb hts hown hKK hP (hA _) hS fkc10_11 (Or.inl rfl) fwc10_11 lkcX10_71 (by decide) (rfl : kdC 0 = 16) rfl rfl dX10_init_105 (fun H locs hP hS => ?_)
  have hP : va_P D vwCl (wd ce b kdC lnC 272 (u2 I0 0 11 (-9 : Int32)) L0 (u2 (u2 (r_X8_init (u2 (r_X9_init (u2 (r_X4_init (u2 (r_X0_init (u2 (r_X5_init (u2 (r_X2_init (u2 (r_X1_init (u2 (r_X7_init R0 1) 0 0 1) 41) 0 1 41) 243) 0 2 243) 246) 0 3 246) 248) 0 4 248) 256) 0 5 256) 263) 0 6 263) 268) 0 7 268) 0 8 271)) H := hP
  refine lv_aload_n hx hb dX10_init_108 rfl (lv_at hl 0 rfl) ?_
  have eg109 : (u2 (u2 (r_X8_init (u2 (r_X9_init (u2 (r_X4_init (u2 (r_X0_init (u2 (r_X5_init (u2 (r_X2_init (u2 (r_X1_init (u2 (r_X7_init R0 1) 0 0 1) 41) 0 1 41) 243) 0 2 243) 246) 0 3 246) 248) 0 4 248) 256) 0 5 256) 263) 0 6 263) 268) 0 7 268) 0 8 271) 0 0 = 1 := by decide +kernel
  refine mm_getr hx hb hts hown hKK hP fkc10_0 (Nat.le_of_ble_eq_true rfl) lkcX10_10 (by decide) (rfl : kdC 0 = 16) (by rw [eg109]; decide) dX10_init_109 ?_
  rw [eg109]
  have eg112 : (u2 (u2 (r_X8_init (u2 (r_X9_init (u2 (r_X4_init (u2 (r_X0_init (u2 (r_X5_init (u2 (r_X2_init (u2 (r_X1_init (u2 (r_X7_init R0 1) 0 0 1) 41) 0 1 41) 243) 0 2 243) 246) 0 3 246) 248) 0 4 248) 256) 0 5 256) 263) 0 6 263) 268) 0 7 268) 0 8 271) 1 1 = 3 := by decide +kernel
  refine mm_getr hx hb hts hown hKK hP fkc7_1 (Nat.le_of_ble_eq_true rfl) lkcX10_75 (by decide) (rfl : kdC 1 = 13) (by rw [eg112]; decide) dX10_init_112 ?_
  rw [eg112]
  refine lv_bipush (v := (97 : Int32)) hx hb dX10_init_115 (by decide) ?_
  have hP := wd_fixR hfix hP
  refine mm_Vv (rest := []) hx hb hml hown hts hKK hP hS (hA 272) (kdC_lt (rfl : kdC 3 = 14) (Nat.succ_ne_zero _)) (rfl : kdC 3 = 14) (show vwCl[8]? = some (yX8_startAs.cls, TX8, 3) from rfl) vkcX10_78 (k_X8_startAs l D ce b _ L0 R1 hT 3 97 rfl I2 hf) rfl hl.1 rfl (Nat.le_of_ble_eq_true rfl) ⟨rfl, rfl⟩ ⟨Nat.le_of_ble_eq_true rfl, Nat.le_of_ble_eq_true rfl⟩ ⟨Nat.le_of_ble_eq_true rfl, Nat.le_of_ble_eq_true rfl⟩ dX10_init_117 (fun H locs hP hT hS => ?_)
  refine W.widen (k := 271) (n := 3929) (Nat.le_of_ble_eq_true rfl) (Nat.le_of_ble_eq_true rfl) ?_
  exact W.vret hx hb hr (fun t ht hW => ⟨⟨(_, L0, R1), rfl, rfl, by rw [ht]; exact hP, hT⟩, hS.F ht⟩) hS.2.2 dX10_init_120 hlocks
def rmcX11_init : Room := { frames := 1, cells := 20, slots := 9850, locals := 30 }
set_option maxHeartbeats 8000000 in
set_option maxRecDepth 100000 in
theorem c_X11_init (l : Launch) (D : va_G) (ce : Nat → ClassId) (b : Nat) (hF : Fr 1 I0 L0 R0) (R1 : mR) (hfix : ∀ x, x < 21 → ∀ k, ((kdM x = 4 ∨ kdM x = 5) → k < lnM x → (u2 (u2 (u2 (u2 (u2 (u2 (u2 (u2 (u2 (u2 (u2 (u2 (u2 (u2 (u2 (u2 (u2 (u2 (u2 (u2 R0 0 0 1) 0 1 2) 0 2 3) 0 4 4) 0 5 5) 0 8 6) 0 10 7) 0 12 8) 0 13 9) 0 14 10) 0 15 11) 0 16 12) 0 17 13) 0 19 14) 0 20 15) 0 21 16) 0 23 17) 0 25 18) 0 26 19) 0 27 20) x k = R1 x k) ∧ (¬ (kdM x = 4 ∨ kdM x = 5) → (u2 (u2 (u2 (u2 (u2 (u2 (u2 (u2 (u2 (u2 (u2 (u2 (u2 (u2 (u2 (u2 (u2 (u2 (u2 (u2 R0 0 0 1) 0 1 2) 0 2 3) 0 4 4) 0 5 5) 0 8 6) 0 10 7) 0 12 8) 0 13 9) 0 14 10) 0 15 11) 0 16 12) 0 17 13) 0 19 14) 0 20 15) 0 21 16) 0 23 17) 0 25 18) 0 26 19) 0 27 20) x k = R1 x k)) (hT : WT kdM R1) : Met l yX11_init (Cond.code yX11_init cX11_init 1 none :: GW) rmcX11_init (va_Pc [.ref (b + 0)] (PN D ce b kdM lnM 1 I0 L0 R0)) (va_Qv (fun u => u = ((u2 (u2 I0 1 131 (1 : Int32)) 1 132 (97 : Int32)), L0, R1)) (QW D ce b kdM lnM 21) (upA b)) 20 9850 (upA b) := by
  refine Met.ofW (cc := cX11_init) (maxL := 1) (ret := none) (by decide) rfl ?_
  intro p e s m args below meth c s₁ B hml hv
  obtain ⟨rfl, hP, hKK, hz, hAO⟩ := hv
  have hx := B.exec
  have hb := B.bytes
  have hr := B.returns
  have hts0 := atoms_spec (ws := Cond.code yX11_init cX11_init 1 none :: GW) B.pre
  have hts : ∀ w ∈ GW, w.before _ s = true := fun w h => hts0 w (List.mem_cons_of_mem _ h)
  clear hts0
  have hown : s.vm.findClass RX11 = some m.cls := findClass_of_methodNamed B.named
  have hlocks := B.notSynchronized
  have hin : meth.name = "<init>" := (name_of_methodNamed B.named B.method).1
  have hA : ∀ n q, box b n q → upA b q := fun _ _ h => h.1
  have hAu : ∀ q, upA b q → upA b q := fun _ h => h
  have hS : va_S (upA b) s.heap s.heap [] := va_S.rf
  have hl := lv_entry ([.ref (b + 0)]) (n := 1) (Nat.le_of_ble_eq_true rfl)
  rw [lg_entry_eq]
  generalize (lg_sl ([.ref (b + 0)]) ++ List.replicate (1 - (lg_sl ([.ref (b + 0)])).length) Slot.unset).toArray = ls at hl ⊢
  have hl : lv_has ls 1 [(0, .ref (b + 0))] := hl
  generalize ([.ref (b + 0)] : List Value).toArray = av at hts ⊢
  show W p l e rmcX11_init s m av below meth c s.heap [] 0 0 _ _
  refine lv_aload_n hx hb dX11_init_0 rfl (lv_at hl 0 rfl) ?_
  refine W.objInit hx hb hown (hts _ qc815) (hts _ qc101) (hts _ qc102) rfl (by rw [hml]; exact hl.1) rfl dX11_init_1 (Nat.le_of_ble_eq_true rfl) (Nat.le_of_ble_eq_true rfl) ?_
  refine W.eq (g2 := F0 m 4 ls []) rfl ?_
  refine lv_aload_n hx hb dX11_init_4 rfl (lv_at hl 0 rfl) ?_
  refine lv_sipush (v := (192 : Int32)) hx hb dX11_init_5 (by decide) ?_
  refine mm_newi (rest := [.ref (b + 0)]) (n := 1) hx hb hts qc149 hKK hP hz hS (rfl : kdM 1 = 1) (by decide) rfl (Nat.le_of_ble_eq_true rfl) hF (Nat.le_of_ble_eq_true rfl) (Nat.le_of_ble_eq_true rfl) dX11_init_8 (fun H hP hz hS => ?_)
  have hF := hF.mono (n' := 2) (Nat.le_succ _)
  have hP : va_P D vwCl (wd ce b kdM lnM 2 I0 L0 (R0)) H := hP
  have hz : H.size = b + 2 := hz
  refine mm_putF (ty := .array .int) hx hb hts hown hKK hP (hA _) hS fkc11_0 (Nat.le_of_ble_eq_true rfl) ⟨tyX11_ok, nmX11, rfl, tyX11_ok 0 (by decide)⟩ lkcX11_7 hin rfl (by decide) (rfl : kdM 0 = 17) (by decide) rfl rfl dX11_init_10 (fun H locs hP hz1 hS => ?_)
  have hz : H.size = b + 2 := hz1.trans hz
  have hF := hF.upR (k := 0) (v := 1) (a := 0) (by decide)
  have hP : va_P D vwCl (wd ce b kdM lnM 2 I0 L0 (u2 R0 0 0 1)) H := hP
  refine lv_aload_n hx hb dX11_init_13 rfl (lv_at hl 0 rfl) ?_
  refine lv_sipush (v := (192 : Int32)) hx hb dX11_init_14 (by decide) ?_
  refine mm_newi (rest := [.ref (b + 0)]) (n := 2) hx hb hts qc149 hKK hP hz hS (rfl : kdM 2 = 1) (by decide) rfl (Nat.le_of_ble_eq_true rfl) hF (Nat.le_of_ble_eq_true rfl) (Nat.le_of_ble_eq_true rfl) dX11_init_17 (fun H hP hz hS => ?_)
  have hF := hF.mono (n' := 3) (Nat.le_succ _)
  have hP : va_P D vwCl (wd ce b kdM lnM 3 I0 L0 (u2 R0 0 0 1)) H := hP
  have hz : H.size = b + 3 := hz
  refine mm_putF (ty := .array .int) hx hb hts hown hKK hP (hA _) hS fkc11_1 (Nat.le_of_ble_eq_true rfl) ⟨tyX11_ok, nmX11, rfl, tyX11_ok 1 (by decide)⟩ lkcX11_13 hin rfl (by decide) (rfl : kdM 0 = 17) (by decide) rfl rfl dX11_init_19 (fun H locs hP hz1 hS => ?_)
  have hz : H.size = b + 3 := hz1.trans hz
  have hF := hF.upR (k := 1) (v := 2) (a := 0) (by decide)
  have hP : va_P D vwCl (wd ce b kdM lnM 3 I0 L0 (u2 (u2 R0 0 0 1) 0 1 2)) H := hP
  refine lv_aload_n hx hb dX11_init_22 rfl (lv_at hl 0 rfl) ?_
  refine lv_sipush (v := (960 : Int32)) hx hb dX11_init_23 (by decide) ?_
  refine mm_newi (rest := [.ref (b + 0)]) (n := 3) hx hb hts qc149 hKK hP hz hS (rfl : kdM 3 = 1) (by decide) rfl (Nat.le_of_ble_eq_true rfl) hF (Nat.le_of_ble_eq_true rfl) (Nat.le_of_ble_eq_true rfl) dX11_init_26 (fun H hP hz hS => ?_)
  have hF := hF.mono (n' := 4) (Nat.le_succ _)
  have hP : va_P D vwCl (wd ce b kdM lnM 4 I0 L0 (u2 (u2 R0 0 0 1) 0 1 2)) H := hP
  have hz : H.size = b + 4 := hz
  refine mm_putF (ty := .array .int) hx hb hts hown hKK hP (hA _) hS fkc11_2 (Nat.le_of_ble_eq_true rfl) ⟨tyX11_ok, nmX11, rfl, tyX11_ok 2 (by decide)⟩ lkcX11_16 hin rfl (by decide) (rfl : kdM 0 = 17) (by decide) rfl rfl dX11_init_28 (fun H locs hP hz1 hS => ?_)
  have hz : H.size = b + 4 := hz1.trans hz
  have hF := hF.upR (k := 2) (v := 3) (a := 0) (by decide)
  have hP : va_P D vwCl (wd ce b kdM lnM 4 I0 L0 (u2 (u2 (u2 R0 0 0 1) 0 1 2) 0 2 3)) H := hP
  refine lv_aload_n hx hb dX11_init_31 rfl (lv_at hl 0 rfl) ?_
  refine lv_iconst (v := (3 : Int32)) hx hb dX11_init_32 (by decide) ?_
  refine mm_newi (rest := [.ref (b + 0)]) (n := 4) hx hb hts qc149 hKK hP hz hS (rfl : kdM 4 = 1) (by decide) rfl (Nat.le_of_ble_eq_true rfl) hF (Nat.le_of_ble_eq_true rfl) (Nat.le_of_ble_eq_true rfl) dX11_init_33 (fun H hP hz hS => ?_)
  have hF := hF.mono (n' := 5) (Nat.le_succ _)
  have hP : va_P D vwCl (wd ce b kdM lnM 5 I0 L0 (u2 (u2 (u2 R0 0 0 1) 0 1 2) 0 2 3)) H := hP
  have hz : H.size = b + 5 := hz
  refine mm_putF (ty := .array .int) hx hb hts hown hKK hP (hA _) hS fkc11_4 (Nat.le_of_ble_eq_true rfl) ⟨tyX11_ok, nmX11, rfl, tyX11_ok 4 (by decide)⟩ lkcX11_19 hin rfl (by decide) (rfl : kdM 0 = 17) (by decide) rfl rfl dX11_init_35 (fun H locs hP hz1 hS => ?_)
  have hz : H.size = b + 5 := hz1.trans hz
  have hF := hF.upR (k := 4) (v := 4) (a := 0) (by decide)
  have hP : va_P D vwCl (wd ce b kdM lnM 5 I0 L0 (u2 (u2 (u2 (u2 R0 0 0 1) 0 1 2) 0 2 3) 0 4 4)) H := hP
  refine lv_aload_n hx hb dX11_init_38 rfl (lv_at hl 0 rfl) ?_
  refine lv_bipush (v := (120 : Int32)) hx hb dX11_init_39 (by decide) ?_
  refine mm_newi (rest := [.ref (b + 0)]) (n := 5) hx hb hts qc149 hKK hP hz hS (rfl : kdM 5 = 1) (by decide) rfl (Nat.le_of_ble_eq_true rfl) hF (Nat.le_of_ble_eq_true rfl) (Nat.le_of_ble_eq_true rfl) dX11_init_41 (fun H hP hz hS => ?_)
  have hF := hF.mono (n' := 6) (Nat.le_succ _)
  have hP : va_P D vwCl (wd ce b kdM lnM 6 I0 L0 (u2 (u2 (u2 (u2 R0 0 0 1) 0 1 2) 0 2 3) 0 4 4)) H := hP
  have hz : H.size = b + 6 := hz
  refine mm_putF (ty := .array .int) hx hb hts hown hKK hP (hA _) hS fkc11_5 (Nat.le_of_ble_eq_true rfl) ⟨tyX11_ok, nmX11, rfl, tyX11_ok 5 (by decide)⟩ lkcX11_22 hin rfl (by decide) (rfl : kdM 0 = 17) (by decide) rfl rfl dX11_init_43 (fun H locs hP hz1 hS => ?_)
  have hz : H.size = b + 6 := hz1.trans hz
  have hF := hF.upR (k := 5) (v := 5) (a := 0) (by decide)
  have hP : va_P D vwCl (wd ce b kdM lnM 6 I0 L0 (u2 (u2 (u2 (u2 (u2 R0 0 0 1) 0 1 2) 0 2 3) 0 4 4) 0 5 5)) H := hP
  refine lv_aload_n hx hb dX11_init_46 rfl (lv_at hl 0 rfl) ?_
  refine lv_sipush (v := (300 : Int32)) hx hb dX11_init_47 (by decide) ?_
  refine mm_newi (rest := [.ref (b + 0)]) (n := 6) hx hb hts qc149 hKK hP hz hS (rfl : kdM 6 = 1) (by decide) rfl (Nat.le_of_ble_eq_true rfl) hF (Nat.le_of_ble_eq_true rfl) (Nat.le_of_ble_eq_true rfl) dX11_init_50 (fun H hP hz hS => ?_)
  have hF := hF.mono (n' := 7) (Nat.le_succ _)
  have hP : va_P D vwCl (wd ce b kdM lnM 7 I0 L0 (u2 (u2 (u2 (u2 (u2 R0 0 0 1) 0 1 2) 0 2 3) 0 4 4) 0 5 5)) H := hP
  have hz : H.size = b + 7 := hz
  refine mm_putF (ty := .array .int) hx hb hts hown hKK hP (hA _) hS fkc11_8 (Nat.le_of_ble_eq_true rfl) ⟨tyX11_ok, nmX11, rfl, tyX11_ok 8 (by decide)⟩ lkcX11_25 hin rfl (by decide) (rfl : kdM 0 = 17) (by decide) rfl rfl dX11_init_52 (fun H locs hP hz1 hS => ?_)
  have hz : H.size = b + 7 := hz1.trans hz
  have hF := hF.upR (k := 8) (v := 6) (a := 0) (by decide)
  have hP : va_P D vwCl (wd ce b kdM lnM 7 I0 L0 (u2 (u2 (u2 (u2 (u2 (u2 R0 0 0 1) 0 1 2) 0 2 3) 0 4 4) 0 5 5) 0 8 6)) H := hP
  refine lv_aload_n hx hb dX11_init_55 rfl (lv_at hl 0 rfl) ?_
  refine lv_bipush (v := (100 : Int32)) hx hb dX11_init_56 (by decide) ?_
  refine mm_newi (rest := [.ref (b + 0)]) (n := 7) hx hb hts qc149 hKK hP hz hS (rfl : kdM 7 = 1) (by decide) rfl (Nat.le_of_ble_eq_true rfl) hF (Nat.le_of_ble_eq_true rfl) (Nat.le_of_ble_eq_true rfl) dX11_init_58 (fun H hP hz hS => ?_)
  have hF := hF.mono (n' := 8) (Nat.le_succ _)
  have hP : va_P D vwCl (wd ce b kdM lnM 8 I0 L0 (u2 (u2 (u2 (u2 (u2 (u2 R0 0 0 1) 0 1 2) 0 2 3) 0 4 4) 0 5 5) 0 8 6)) H := hP
  have hz : H.size = b + 8 := hz
  refine mm_putF (ty := .array .int) hx hb hts hown hKK hP (hA _) hS fkc11_10 (Nat.le_of_ble_eq_true rfl) ⟨tyX11_ok, nmX11, rfl, tyX11_ok 10 (by decide)⟩ lkcX11_28 hin rfl (by decide) (rfl : kdM 0 = 17) (by decide) rfl rfl dX11_init_60 (fun H locs hP hz1 hS => ?_)
  have hz : H.size = b + 8 := hz1.trans hz
  have hF := hF.upR (k := 10) (v := 7) (a := 0) (by decide)
  have hP : va_P D vwCl (wd ce b kdM lnM 8 I0 L0 (u2 (u2 (u2 (u2 (u2 (u2 (u2 R0 0 0 1) 0 1 2) 0 2 3) 0 4 4) 0 5 5) 0 8 6) 0 10 7)) H := hP
  refine lv_aload_n hx hb dX11_init_63 rfl (lv_at hl 0 rfl) ?_
  refine lv_bipush (v := (7 : Int32)) hx hb dX11_init_64 (by decide) ?_
  refine mm_newi (rest := [.ref (b + 0)]) (n := 8) hx hb hts qc149 hKK hP hz hS (rfl : kdM 8 = 1) (by decide) rfl (Nat.le_of_ble_eq_true rfl) hF (Nat.le_of_ble_eq_true rfl) (Nat.le_of_ble_eq_true rfl) dX11_init_66 (fun H hP hz hS => ?_)
  have hF := hF.mono (n' := 9) (Nat.le_succ _)
  have hP : va_P D vwCl (wd ce b kdM lnM 9 I0 L0 (u2 (u2 (u2 (u2 (u2 (u2 (u2 R0 0 0 1) 0 1 2) 0 2 3) 0 4 4) 0 5 5) 0 8 6) 0 10 7)) H := hP
  have hz : H.size = b + 9 := hz
  refine mm_putF (ty := .array .int) hx hb hts hown hKK hP (hA _) hS fkc11_12 (Nat.le_of_ble_eq_true rfl) ⟨tyX11_ok, nmX11, rfl, tyX11_ok 12 (by decide)⟩ lkcX11_31 hin rfl (by decide) (rfl : kdM 0 = 17) (by decide) rfl rfl dX11_init_68 (fun H locs hP hz1 hS => ?_)
  have hz : H.size = b + 9 := hz1.trans hz
  have hF := hF.upR (k := 12) (v := 8) (a := 0) (by decide)
  have hP : va_P D vwCl (wd ce b kdM lnM 9 I0 L0 (u2 (u2 (u2 (u2 (u2 (u2 (u2 (u2 R0 0 0 1) 0 1 2) 0 2 3) 0 4 4) 0 5 5) 0 8 6) 0 10 7) 0 12 8)) H := hP
  refine lv_aload_n hx hb dX11_init_71 rfl (lv_at hl 0 rfl) ?_
  refine lv_bipush (v := (64 : Int32)) hx hb dX11_init_72 (by decide) ?_
  refine mm_newl (rest := [.ref (b + 0)]) (n := 9) hx hb hts qc304 hKK hP hz hS (rfl : kdM 9 = 2) (by decide) rfl (Nat.le_of_ble_eq_true rfl) hF (Nat.le_of_ble_eq_true rfl) (Nat.le_of_ble_eq_true rfl) dX11_init_74 (fun H hP hz hS => ?_)
  have hF := hF.mono (n' := 10) (Nat.le_succ _)
  have hP : va_P D vwCl (wd ce b kdM lnM 10 I0 L0 (u2 (u2 (u2 (u2 (u2 (u2 (u2 (u2 R0 0 0 1) 0 1 2) 0 2 3) 0 4 4) 0 5 5) 0 8 6) 0 10 7) 0 12 8)) H := hP
  have hz : H.size = b + 10 := hz
  refine mm_putF (ty := .array .long) hx hb hts hown hKK hP (hA _) hS fkc11_13 (Nat.le_of_ble_eq_true rfl) ⟨tyX11_ok, nmX11, rfl, tyX11_ok 13 (by decide)⟩ lkcX11_34 hin rfl (by decide) (rfl : kdM 0 = 17) (by decide) rfl rfl dX11_init_76 (fun H locs hP hz1 hS => ?_)
  have hz : H.size = b + 10 := hz1.trans hz
  have hF := hF.upR (k := 13) (v := 9) (a := 0) (by decide)
  have hP : va_P D vwCl (wd ce b kdM lnM 10 I0 L0 (u2 (u2 (u2 (u2 (u2 (u2 (u2 (u2 (u2 R0 0 0 1) 0 1 2) 0 2 3) 0 4 4) 0 5 5) 0 8 6) 0 10 7) 0 12 8) 0 13 9)) H := hP
  refine lv_aload_n hx hb dX11_init_79 rfl (lv_at hl 0 rfl) ?_
  refine lv_bipush (v := (64 : Int32)) hx hb dX11_init_80 (by decide) ?_
  refine mm_newl (rest := [.ref (b + 0)]) (n := 10) hx hb hts qc304 hKK hP hz hS (rfl : kdM 10 = 2) (by decide) rfl (Nat.le_of_ble_eq_true rfl) hF (Nat.le_of_ble_eq_true rfl) (Nat.le_of_ble_eq_true rfl) dX11_init_82 (fun H hP hz hS => ?_)
  have hF := hF.mono (n' := 11) (Nat.le_succ _)
  have hP : va_P D vwCl (wd ce b kdM lnM 11 I0 L0 (u2 (u2 (u2 (u2 (u2 (u2 (u2 (u2 (u2 R0 0 0 1) 0 1 2) 0 2 3) 0 4 4) 0 5 5) 0 8 6) 0 10 7) 0 12 8) 0 13 9)) H := hP
  have hz : H.size = b + 11 := hz
  refine mm_putF (ty := .array .long) hx hb hts hown hKK hP (hA _) hS fkc11_14 (Nat.le_of_ble_eq_true rfl) ⟨tyX11_ok, nmX11, rfl, tyX11_ok 14 (by decide)⟩ lkcX11_38 hin rfl (by decide) (rfl : kdM 0 = 17) (by decide) rfl rfl dX11_init_84 (fun H locs hP hz1 hS => ?_)
  have hz : H.size = b + 11 := hz1.trans hz
  have hF := hF.upR (k := 14) (v := 10) (a := 0) (by decide)
  have hP : va_P D vwCl (wd ce b kdM lnM 11 I0 L0 (u2 (u2 (u2 (u2 (u2 (u2 (u2 (u2 (u2 (u2 R0 0 0 1) 0 1 2) 0 2 3) 0 4 4) 0 5 5) 0 8 6) 0 10 7) 0 12 8) 0 13 9) 0 14 10)) H := hP
  refine lv_aload_n hx hb dX11_init_87 rfl (lv_at hl 0 rfl) ?_
  refine lv_bipush (v := (64 : Int32)) hx hb dX11_init_88 (by decide) ?_
  refine mm_newl (rest := [.ref (b + 0)]) (n := 11) hx hb hts qc304 hKK hP hz hS (rfl : kdM 11 = 2) (by decide) rfl (Nat.le_of_ble_eq_true rfl) hF (Nat.le_of_ble_eq_true rfl) (Nat.le_of_ble_eq_true rfl) dX11_init_90 (fun H hP hz hS => ?_)
  have hF := hF.mono (n' := 12) (Nat.le_succ _)
  have hP : va_P D vwCl (wd ce b kdM lnM 12 I0 L0 (u2 (u2 (u2 (u2 (u2 (u2 (u2 (u2 (u2 (u2 R0 0 0 1) 0 1 2) 0 2 3) 0 4 4) 0 5 5) 0 8 6) 0 10 7) 0 12 8) 0 13 9) 0 14 10)) H := hP
  have hz : H.size = b + 12 := hz
  refine mm_putF (ty := .array .long) hx hb hts hown hKK hP (hA _) hS fkc11_15 (Nat.le_of_ble_eq_true rfl) ⟨tyX11_ok, nmX11, rfl, tyX11_ok 15 (by decide)⟩ lkcX11_41 hin rfl (by decide) (rfl : kdM 0 = 17) (by decide) rfl rfl dX11_init_92 (fun H locs hP hz1 hS => ?_)
  have hz : H.size = b + 12 := hz1.trans hz
  have hF := hF.upR (k := 15) (v := 11) (a := 0) (by decide)
  have hP : va_P D vwCl (wd ce b kdM lnM 12 I0 L0 (u2 (u2 (u2 (u2 (u2 (u2 (u2 (u2 (u2 (u2 (u2 R0 0 0 1) 0 1 2) 0 2 3) 0 4 4) 0 5 5) 0 8 6) 0 10 7) 0 12 8) 0 13 9) 0 14 10) 0 15 11)) H := hP
  refine lv_aload_n hx hb dX11_init_95 rfl (lv_at hl 0 rfl) ?_
  refine lv_bipush (v := (60 : Int32)) hx hb dX11_init_96 (by decide) ?_
  refine mm_newi (rest := [.ref (b + 0)]) (n := 12) hx hb hts qc149 hKK hP hz hS (rfl : kdM 12 = 1) (by decide) rfl (Nat.le_of_ble_eq_true rfl) hF (Nat.le_of_ble_eq_true rfl) (Nat.le_of_ble_eq_true rfl) dX11_init_98 (fun H hP hz hS => ?_)
  have hF := hF.mono (n' := 13) (Nat.le_succ _)
  have hP : va_P D vwCl (wd ce b kdM lnM 13 I0 L0 (u2 (u2 (u2 (u2 (u2 (u2 (u2 (u2 (u2 (u2 (u2 R0 0 0 1) 0 1 2) 0 2 3) 0 4 4) 0 5 5) 0 8 6) 0 10 7) 0 12 8) 0 13 9) 0 14 10) 0 15 11)) H := hP
  have hz : H.size = b + 13 := hz
  refine mm_putF (ty := .array .int) hx hb hts hown hKK hP (hA _) hS fkc11_16 (Nat.le_of_ble_eq_true rfl) ⟨tyX11_ok, nmX11, rfl, tyX11_ok 16 (by decide)⟩ lkcX11_44 hin rfl (by decide) (rfl : kdM 0 = 17) (by decide) rfl rfl dX11_init_100 (fun H locs hP hz1 hS => ?_)
  have hz : H.size = b + 13 := hz1.trans hz
  have hF := hF.upR (k := 16) (v := 12) (a := 0) (by decide)
  have hP : va_P D vwCl (wd ce b kdM lnM 13 I0 L0 (u2 (u2 (u2 (u2 (u2 (u2 (u2 (u2 (u2 (u2 (u2 (u2 R0 0 0 1) 0 1 2) 0 2 3) 0 4 4) 0 5 5) 0 8 6) 0 10 7) 0 12 8) 0 13 9) 0 14 10) 0 15 11) 0 16 12)) H := hP
  refine lv_aload_n hx hb dX11_init_103 rfl (lv_at hl 0 rfl) ?_
  refine lv_bipush (v := (60 : Int32)) hx hb dX11_init_104 (by decide) ?_
  refine mm_newi (rest := [.ref (b + 0)]) (n := 13) hx hb hts qc149 hKK hP hz hS (rfl : kdM 13 = 1) (by decide) rfl (Nat.le_of_ble_eq_true rfl) hF (Nat.le_of_ble_eq_true rfl) (Nat.le_of_ble_eq_true rfl) dX11_init_106 (fun H hP hz hS => ?_)
  have hF := hF.mono (n' := 14) (Nat.le_succ _)
  have hP : va_P D vwCl (wd ce b kdM lnM 14 I0 L0 (u2 (u2 (u2 (u2 (u2 (u2 (u2 (u2 (u2 (u2 (u2 (u2 R0 0 0 1) 0 1 2) 0 2 3) 0 4 4) 0 5 5) 0 8 6) 0 10 7) 0 12 8) 0 13 9) 0 14 10) 0 15 11) 0 16 12)) H := hP
  have hz : H.size = b + 14 := hz
  refine mm_putF (ty := .array .int) hx hb hts hown hKK hP (hA _) hS fkc11_17 (Nat.le_of_ble_eq_true rfl) ⟨tyX11_ok, nmX11, rfl, tyX11_ok 17 (by decide)⟩ lkcX11_47 hin rfl (by decide) (rfl : kdM 0 = 17) (by decide) rfl rfl dX11_init_108 (fun H locs hP hz1 hS => ?_)
  have hz : H.size = b + 14 := hz1.trans hz
  have hF := hF.upR (k := 17) (v := 13) (a := 0) (by decide)
  have hP : va_P D vwCl (wd ce b kdM lnM 14 I0 L0 (u2 (u2 (u2 (u2 (u2 (u2 (u2 (u2 (u2 (u2 (u2 (u2 (u2 R0 0 0 1) 0 1 2) 0 2 3) 0 4 4) 0 5 5) 0 8 6) 0 10 7) 0 12 8) 0 13 9) 0 14 10) 0 15 11) 0 16 12) 0 17 13)) H := hP
  refine lv_aload_n hx hb dX11_init_111 rfl (lv_at hl 0 rfl) ?_
  refine lv_sipush (v := (3600 : Int32)) hx hb dX11_init_112 (by decide) ?_
  refine mm_newz (rest := [.ref (b + 0)]) (n := 14) hx hb hts qc913 hKK hP hz hS (rfl : kdM 14 = 3) (by decide) rfl (Nat.le_of_ble_eq_true rfl) hF (Nat.le_of_ble_eq_true rfl) (Nat.le_of_ble_eq_true rfl) dX11_init_115 (fun H hP hz hS => ?_)
  have hF := hF.mono (n' := 15) (Nat.le_succ _)
  have hP : va_P D vwCl (wd ce b kdM lnM 15 I0 L0 (u2 (u2 (u2 (u2 (u2 (u2 (u2 (u2 (u2 (u2 (u2 (u2 (u2 R0 0 0 1) 0 1 2) 0 2 3) 0 4 4) 0 5 5) 0 8 6) 0 10 7) 0 12 8) 0 13 9) 0 14 10) 0 15 11) 0 16 12) 0 17 13)) H := hP
  have hz : H.size = b + 15 := hz
  refine mm_putF (ty := .array .boolean) hx hb hts hown hKK hP (hA _) hS fkc11_19 (Nat.le_of_ble_eq_true rfl) ⟨tyX11_ok, nmX11, rfl, tyX11_ok 19 (by decide)⟩ lkcX11_50 hin rfl (by decide) (rfl : kdM 0 = 17) (by decide) rfl rfl dX11_init_117 (fun H locs hP hz1 hS => ?_)
  have hz : H.size = b + 15 := hz1.trans hz
  have hF := hF.upR (k := 19) (v := 14) (a := 0) (by decide)
  have hP : va_P D vwCl (wd ce b kdM lnM 15 I0 L0 (u2 (u2 (u2 (u2 (u2 (u2 (u2 (u2 (u2 (u2 (u2 (u2 (u2 (u2 R0 0 0 1) 0 1 2) 0 2 3) 0 4 4) 0 5 5) 0 8 6) 0 10 7) 0 12 8) 0 13 9) 0 14 10) 0 15 11) 0 16 12) 0 17 13) 0 19 14)) H := hP
  refine lv_aload_n hx hb dX11_init_120 rfl (lv_at hl 0 rfl) ?_
  refine lv_sipush (v := (3600 : Int32)) hx hb dX11_init_121 (by decide) ?_
  refine mm_newz (rest := [.ref (b + 0)]) (n := 15) hx hb hts qc913 hKK hP hz hS (rfl : kdM 15 = 3) (by decide) rfl (Nat.le_of_ble_eq_true rfl) hF (Nat.le_of_ble_eq_true rfl) (Nat.le_of_ble_eq_true rfl) dX11_init_124 (fun H hP hz hS => ?_)
  have hF := hF.mono (n' := 16) (Nat.le_succ _)
  have hP : va_P D vwCl (wd ce b kdM lnM 16 I0 L0 (u2 (u2 (u2 (u2 (u2 (u2 (u2 (u2 (u2 (u2 (u2 (u2 (u2 (u2 R0 0 0 1) 0 1 2) 0 2 3) 0 4 4) 0 5 5) 0 8 6) 0 10 7) 0 12 8) 0 13 9) 0 14 10) 0 15 11) 0 16 12) 0 17 13) 0 19 14)) H := hP
  have hz : H.size = b + 16 := hz
  refine mm_putF (ty := .array .boolean) hx hb hts hown hKK hP (hA _) hS fkc11_20 (Nat.le_of_ble_eq_true rfl) ⟨tyX11_ok, nmX11, rfl, tyX11_ok 20 (by decide)⟩ lkcX11_54 hin rfl (by decide) (rfl : kdM 0 = 17) (by decide) rfl rfl dX11_init_126 (fun H locs hP hz1 hS => ?_)
  have hz : H.size = b + 16 := hz1.trans hz
  have hF := hF.upR (k := 20) (v := 15) (a := 0) (by decide)
  have hP : va_P D vwCl (wd ce b kdM lnM 16 I0 L0 (u2 (u2 (u2 (u2 (u2 (u2 (u2 (u2 (u2 (u2 (u2 (u2 (u2 (u2 (u2 R0 0 0 1) 0 1 2) 0 2 3) 0 4 4) 0 5 5) 0 8 6) 0 10 7) 0 12 8) 0 13 9) 0 14 10) 0 15 11) 0 16 12) 0 17 13) 0 19 14) 0 20 15)) H := hP
  refine lv_aload_n hx hb dX11_init_129 rfl (lv_at hl 0 rfl) ?_
  refine lv_bipush (v := (60 : Int32)) hx hb dX11_init_130 (by decide) ?_
  refine mm_newi (rest := [.ref (b + 0)]) (n := 16) hx hb hts qc149 hKK hP hz hS (rfl : kdM 16 = 1) (by decide) rfl (Nat.le_of_ble_eq_true rfl) hF (Nat.le_of_ble_eq_true rfl) (Nat.le_of_ble_eq_true rfl) dX11_init_132 (fun H hP hz hS => ?_)
  have hF := hF.mono (n' := 17) (Nat.le_succ _)
  have hP : va_P D vwCl (wd ce b kdM lnM 17 I0 L0 (u2 (u2 (u2 (u2 (u2 (u2 (u2 (u2 (u2 (u2 (u2 (u2 (u2 (u2 (u2 R0 0 0 1) 0 1 2) 0 2 3) 0 4 4) 0 5 5) 0 8 6) 0 10 7) 0 12 8) 0 13 9) 0 14 10) 0 15 11) 0 16 12) 0 17 13) 0 19 14) 0 20 15)) H := hP
  have hz : H.size = b + 17 := hz
  refine mm_putF (ty := .array .int) hx hb hts hown hKK hP (hA _) hS fkc11_21 (Nat.le_of_ble_eq_true rfl) ⟨tyX11_ok, nmX11, rfl, tyX11_ok 21 (by decide)⟩ lkcX11_57 hin rfl (by decide) (rfl : kdM 0 = 17) (by decide) rfl rfl dX11_init_134 (fun H locs hP hz1 hS => ?_)
  have hz : H.size = b + 17 := hz1.trans hz
  have hF := hF.upR (k := 21) (v := 16) (a := 0) (by decide)
  have hP : va_P D vwCl (wd ce b kdM lnM 17 I0 L0 (u2 (u2 (u2 (u2 (u2 (u2 (u2 (u2 (u2 (u2 (u2 (u2 (u2 (u2 (u2 (u2 R0 0 0 1) 0 1 2) 0 2 3) 0 4 4) 0 5 5) 0 8 6) 0 10 7) 0 12 8) 0 13 9) 0 14 10) 0 15 11) 0 16 12) 0 17 13) 0 19 14) 0 20 15) 0 21 16)) H := hP
  refine lv_aload_n hx hb dX11_init_137 rfl (lv_at hl 0 rfl) ?_
  refine lv_sipush (v := (200 : Int32)) hx hb dX11_init_138 (by decide) ?_
  refine mm_newi (rest := [.ref (b + 0)]) (n := 17) hx hb hts qc149 hKK hP hz hS (rfl : kdM 17 = 1) (by decide) rfl (Nat.le_of_ble_eq_true rfl) hF (Nat.le_of_ble_eq_true rfl) (Nat.le_of_ble_eq_true rfl) dX11_init_141 (fun H hP hz hS => ?_)
  have hF := hF.mono (n' := 18) (Nat.le_succ _)
  have hP : va_P D vwCl (wd ce b kdM lnM 18 I0 L0 (u2 (u2 (u2 (u2 (u2 (u2 (u2 (u2 (u2 (u2 (u2 (u2 (u2 (u2 (u2 (u2 R0 0 0 1) 0 1 2) 0 2 3) 0 4 4) 0 5 5) 0 8 6) 0 10 7) 0 12 8) 0 13 9) 0 14 10) 0 15 11) 0 16 12) 0 17 13) 0 19 14) 0 20 15) 0 21 16)) H := hP
  have hz : H.size = b + 18 := hz
  refine mm_putF (ty := .array .int) hx hb hts hown hKK hP (hA _) hS fkc11_23 (Nat.le_of_ble_eq_true rfl) ⟨tyX11_ok, nmX11, rfl, tyX11_ok 23 (by decide)⟩ lkcX11_60 hin rfl (by decide) (rfl : kdM 0 = 17) (by decide) rfl rfl dX11_init_143 (fun H locs hP hz1 hS => ?_)
  have hz : H.size = b + 18 := hz1.trans hz
  have hF := hF.upR (k := 23) (v := 17) (a := 0) (by decide)
  have hP : va_P D vwCl (wd ce b kdM lnM 18 I0 L0 (u2 (u2 (u2 (u2 (u2 (u2 (u2 (u2 (u2 (u2 (u2 (u2 (u2 (u2 (u2 (u2 (u2 R0 0 0 1) 0 1 2) 0 2 3) 0 4 4) 0 5 5) 0 8 6) 0 10 7) 0 12 8) 0 13 9) 0 14 10) 0 15 11) 0 16 12) 0 17 13) 0 19 14) 0 20 15) 0 21 16) 0 23 17)) H := hP
  refine lv_aload_n hx hb dX11_init_146 rfl (lv_at hl 0 rfl) ?_
  refine lv_sipush (v := (200 : Int32)) hx hb dX11_init_147 (by decide) ?_
  refine mm_newi (rest := [.ref (b + 0)]) (n := 18) hx hb hts qc149 hKK hP hz hS (rfl : kdM 18 = 1) (by decide) rfl (Nat.le_of_ble_eq_true rfl) hF (Nat.le_of_ble_eq_true rfl) (Nat.le_of_ble_eq_true rfl) dX11_init_150 (fun H hP hz hS => ?_)
  have hF := hF.mono (n' := 19) (Nat.le_succ _)
  have hP : va_P D vwCl (wd ce b kdM lnM 19 I0 L0 (u2 (u2 (u2 (u2 (u2 (u2 (u2 (u2 (u2 (u2 (u2 (u2 (u2 (u2 (u2 (u2 (u2 R0 0 0 1) 0 1 2) 0 2 3) 0 4 4) 0 5 5) 0 8 6) 0 10 7) 0 12 8) 0 13 9) 0 14 10) 0 15 11) 0 16 12) 0 17 13) 0 19 14) 0 20 15) 0 21 16) 0 23 17)) H := hP
  have hz : H.size = b + 19 := hz
  refine mm_putF (ty := .array .int) hx hb hts hown hKK hP (hA _) hS fkc11_25 (Nat.le_of_ble_eq_true rfl) ⟨tyX11_ok, nmX11, rfl, tyX11_ok 25 (by decide)⟩ lkcX11_63 hin rfl (by decide) (rfl : kdM 0 = 17) (by decide) rfl rfl dX11_init_152 (fun H locs hP hz1 hS => ?_)
  have hz : H.size = b + 19 := hz1.trans hz
  have hF := hF.upR (k := 25) (v := 18) (a := 0) (by decide)
  have hP : va_P D vwCl (wd ce b kdM lnM 19 I0 L0 (u2 (u2 (u2 (u2 (u2 (u2 (u2 (u2 (u2 (u2 (u2 (u2 (u2 (u2 (u2 (u2 (u2 (u2 R0 0 0 1) 0 1 2) 0 2 3) 0 4 4) 0 5 5) 0 8 6) 0 10 7) 0 12 8) 0 13 9) 0 14 10) 0 15 11) 0 16 12) 0 17 13) 0 19 14) 0 20 15) 0 21 16) 0 23 17) 0 25 18)) H := hP
  refine lv_aload_n hx hb dX11_init_155 rfl (lv_at hl 0 rfl) ?_
  refine lv_iconst (v := (2 : Int32)) hx hb dX11_init_156 (by decide) ?_
  refine mm_newi (rest := [.ref (b + 0)]) (n := 19) hx hb hts qc149 hKK hP hz hS (rfl : kdM 19 = 1) (by decide) rfl (Nat.le_of_ble_eq_true rfl) hF (Nat.le_of_ble_eq_true rfl) (Nat.le_of_ble_eq_true rfl) dX11_init_157 (fun H hP hz hS => ?_)
  have hF := hF.mono (n' := 20) (Nat.le_succ _)
  have hP : va_P D vwCl (wd ce b kdM lnM 20 I0 L0 (u2 (u2 (u2 (u2 (u2 (u2 (u2 (u2 (u2 (u2 (u2 (u2 (u2 (u2 (u2 (u2 (u2 (u2 R0 0 0 1) 0 1 2) 0 2 3) 0 4 4) 0 5 5) 0 8 6) 0 10 7) 0 12 8) 0 13 9) 0 14 10) 0 15 11) 0 16 12) 0 17 13) 0 19 14) 0 20 15) 0 21 16) 0 23 17) 0 25 18)) H := hP
  have hz : H.size = b + 20 := hz
  refine mm_putF (ty := .array .int) hx hb hts hown hKK hP (hA _) hS fkc11_26 (Nat.le_of_ble_eq_true rfl) ⟨tyX11_ok, nmX11, rfl, tyX11_ok 26 (by decide)⟩ lkcX11_66 hin rfl (by decide) (rfl : kdM 0 = 17) (by decide) rfl rfl dX11_init_159 (fun H locs hP hz1 hS => ?_)
  have hz : H.size = b + 20 := hz1.trans hz
  have hF := hF.upR (k := 26) (v := 19) (a := 0) (by decide)
  have hP : va_P D vwCl (wd ce b kdM lnM 20 I0 L0 (u2 (u2 (u2 (u2 (u2 (u2 (u2 (u2 (u2 (u2 (u2 (u2 (u2 (u2 (u2 (u2 (u2 (u2 (u2 R0 0 0 1) 0 1 2) 0 2 3) 0 4 4) 0 5 5) 0 8 6) 0 10 7) 0 12 8) 0 13 9) 0 14 10) 0 15 11) 0 16 12) 0 17 13) 0 19 14) 0 20 15) 0 21 16) 0 23 17) 0 25 18) 0 26 19)) H := hP
  refine lv_aload_n hx hb dX11_init_162 rfl (lv_at hl 0 rfl) ?_
  refine lv_iconst (v := (2 : Int32)) hx hb dX11_init_163 (by decide) ?_
  refine mm_newi (rest := [.ref (b + 0)]) (n := 20) hx hb hts qc149 hKK hP hz hS (rfl : kdM 20 = 1) (by decide) rfl (Nat.le_of_ble_eq_true rfl) hF (Nat.le_of_ble_eq_true rfl) (Nat.le_of_ble_eq_true rfl) dX11_init_164 (fun H hP hz hS => ?_)
  have hF := hF.mono (n' := 21) (Nat.le_succ _)
  have hP : va_P D vwCl (wd ce b kdM lnM 21 I0 L0 (u2 (u2 (u2 (u2 (u2 (u2 (u2 (u2 (u2 (u2 (u2 (u2 (u2 (u2 (u2 (u2 (u2 (u2 (u2 R0 0 0 1) 0 1 2) 0 2 3) 0 4 4) 0 5 5) 0 8 6) 0 10 7) 0 12 8) 0 13 9) 0 14 10) 0 15 11) 0 16 12) 0 17 13) 0 19 14) 0 20 15) 0 21 16) 0 23 17) 0 25 18) 0 26 19)) H := hP
  have hz : H.size = b + 21 := hz
  refine mm_putF (ty := .array .int) hx hb hts hown hKK hP (hA _) hS fkc11_27 (Nat.le_of_ble_eq_true rfl) ⟨tyX11_ok, nmX11, rfl, tyX11_ok 27 (by decide)⟩ lkcX11_69 hin rfl (by decide) (rfl : kdM 0 = 17) (by decide) rfl rfl dX11_init_166 (fun H locs hP hz1 hS => ?_)
  have hz : H.size = b + 21 := hz1.trans hz
  have hF := hF.upR (k := 27) (v := 20) (a := 0) (by decide)
  have hP : va_P D vwCl (wd ce b kdM lnM 21 I0 L0 (u2 (u2 (u2 (u2 (u2 (u2 (u2 (u2 (u2 (u2 (u2 (u2 (u2 (u2 (u2 (u2 (u2 (u2 (u2 (u2 R0 0 0 1) 0 1 2) 0 2 3) 0 4 4) 0 5 5) 0 8 6) 0 10 7) 0 12 8) 0 13 9) 0 14 10) 0 15 11) 0 16 12) 0 17 13) 0 19 14) 0 20 15) 0 21 16) 0 23 17) 0 25 18) 0 26 19) 0 27 20)) H := hP
  refine lv_aload_n hx hb dX11_init_169 rfl (lv_at hl 0 rfl) ?_
  have eg170 : (u2 (u2 (u2 (u2 (u2 (u2 (u2 (u2 (u2 (u2 (u2 (u2 (u2 (u2 (u2 (u2 (u2 (u2 (u2 (u2 R0 0 0 1) 0 1 2) 0 2 3) 0 4 4) 0 5 5) 0 8 6) 0 10 7) 0 12 8) 0 13 9) 0 14 10) 0 15 11) 0 16 12) 0 17 13) 0 19 14) 0 20 15) 0 21 16) 0 23 17) 0 25 18) 0 26 19) 0 27 20) 0 0 = 1 := by decide +kernel
  refine mm_getr hx hb hts hown hKK hP fkc11_0 (Nat.le_of_ble_eq_true rfl) lkcX11_7 (by decide) (rfl : kdM 0 = 17) (by rw [eg170]; decide) dX11_init_170 ?_
  rw [eg170]
  refine lv_sipush (v := (131 : Int32)) hx hb dX11_init_173 (by decide) ?_
  refine lv_iconst (v := (1 : Int32)) hx hb dX11_init_176 (by decide) ?_
  refine mm_iast hx hb hKK hP (hA _) hS (by decide) (rfl : kdM 1 = 1) rfl dX11_init_177 (fun H locs hP hS => ?_)
  have hP : va_P D vwCl (wd ce b kdM lnM 21 (u2 I0 1 131 (1 : Int32)) L0 (u2 (u2 (u2 (u2 (u2 (u2 (u2 (u2 (u2 (u2 (u2 (u2 (u2 (u2 (u2 (u2 (u2 (u2 (u2 (u2 R0 0 0 1) 0 1 2) 0 2 3) 0 4 4) 0 5 5) 0 8 6) 0 10 7) 0 12 8) 0 13 9) 0 14 10) 0 15 11) 0 16 12) 0 17 13) 0 19 14) 0 20 15) 0 21 16) 0 23 17) 0 25 18) 0 26 19) 0 27 20)) H := hP
  refine lv_aload_n hx hb dX11_init_178 rfl (lv_at hl 0 rfl) ?_
  have eg179 : (u2 (u2 (u2 (u2 (u2 (u2 (u2 (u2 (u2 (u2 (u2 (u2 (u2 (u2 (u2 (u2 (u2 (u2 (u2 (u2 R0 0 0 1) 0 1 2) 0 2 3) 0 4 4) 0 5 5) 0 8 6) 0 10 7) 0 12 8) 0 13 9) 0 14 10) 0 15 11) 0 16 12) 0 17 13) 0 19 14) 0 20 15) 0 21 16) 0 23 17) 0 25 18) 0 26 19) 0 27 20) 0 0 = 1 := by decide +kernel
  refine mm_getr hx hb hts hown hKK hP fkc11_0 (Nat.le_of_ble_eq_true rfl) lkcX11_7 (by decide) (rfl : kdM 0 = 17) (by rw [eg179]; decide) dX11_init_179 ?_
  rw [eg179]
  refine lv_sipush (v := (132 : Int32)) hx hb dX11_init_182 (by decide) ?_
  refine lv_bipush (v := (97 : Int32)) hx hb dX11_init_185 (by decide) ?_
  refine mm_iast hx hb hKK hP (hA _) hS (by decide) (rfl : kdM 1 = 1) rfl dX11_init_187 (fun H locs hP hS => ?_)
  have hP : va_P D vwCl (wd ce b kdM lnM 21 (u2 (u2 I0 1 131 (1 : Int32)) 1 132 (97 : Int32)) L0 (u2 (u2 (u2 (u2 (u2 (u2 (u2 (u2 (u2 (u2 (u2 (u2 (u2 (u2 (u2 (u2 (u2 (u2 (u2 (u2 R0 0 0 1) 0 1 2) 0 2 3) 0 4 4) 0 5 5) 0 8 6) 0 10 7) 0 12 8) 0 13 9) 0 14 10) 0 15 11) 0 16 12) 0 17 13) 0 19 14) 0 20 15) 0 21 16) 0 23 17) 0 25 18) 0 26 19) 0 27 20)) H := hP
  have hP := wd_fixR hfix hP
  refine W.widen (k := 20) (n := 9850) (Nat.le_of_ble_eq_true rfl) (Nat.le_of_ble_eq_true rfl) ?_
  exact W.vret hx hb hr (fun t ht hW => ⟨⟨(_, L0, R1), rfl, rfl, by rw [ht]; exact hP, hT⟩, hS.F ht⟩) hS.2.2 dX11_init_188 hlocks
