set_option maxRecDepth 100000 in
theorem kObjM : Cond.instanceMethod Lib.objectInit ∈ tb_ := tb_at 184 (by rfl) (by rfl)
set_option maxRecDepth 100000 in
theorem kObjC : Cond.code Lib.objectInit ⟨#[0xb1]⟩ 1 none ∈ tb_ := tb_at 185 (by rfl) (by rfl)
set_option maxRecDepth 100000 in
theorem kObj_RX0 : Cond.methodLink RX0 3 Lib.objectInit ∈ tb_ := tb_at 409 (by rfl) (by rfl)
set_option maxRecDepth 100000 in
theorem kcl_RX0_11 : Cond.classLink RX0 11 "[[I" ∈ tb_ := tb_at 410 (by rfl) (by rfl)
set_option maxRecDepth 100000 in
theorem kim_X0_init : Cond.instanceMethod yX0_init ∈ tb_ := tb_at 407 (by rfl) (by rfl)
set_option maxRecDepth 100000 in
theorem kin_X0_init : Cond.initialized RX0 ∈ tb_ := tb_at 169 (by rfl) (by rfl)
set_option maxRecDepth 100000 in
theorem kco_X0_init : Cond.code yX0_init cX0_init 1 none ∈ tb_ := tb_at 408 (by rfl) (by rfl)
set_option maxRecDepth 100000 in
theorem kins_X0 : Cond.instantiable RX0 5 ∈ tb_ := tb_at 405 (by rfl) (by rfl)
set_option maxRecDepth 100000 in
theorem kObj_RX1 : Cond.methodLink RX1 3 Lib.objectInit ∈ tb_ := tb_at 476 (by rfl) (by rfl)
set_option maxRecDepth 100000 in
theorem kcl_RX1_9 : Cond.classLink RX1 9 RX8 ∈ tb_ := tb_at 477 (by rfl) (by rfl)
set_option maxRecDepth 100000 in
theorem kim_X1_init : Cond.instanceMethod yX1_init ∈ tb_ := tb_at 474 (by rfl) (by rfl)
set_option maxRecDepth 100000 in
theorem kin_X1_init : Cond.initialized RX1 ∈ tb_ := tb_at 173 (by rfl) (by rfl)
set_option maxRecDepth 100000 in
theorem kco_X1_init : Cond.code yX1_init cX1_init 1 none ∈ tb_ := tb_at 475 (by rfl) (by rfl)
set_option maxRecDepth 100000 in
theorem kins_X1 : Cond.instantiable RX1 11 ∈ tb_ := tb_at 472 (by rfl) (by rfl)
set_option maxRecDepth 100000 in
theorem kObj_RX2 : Cond.methodLink RX2 3 Lib.objectInit ∈ tb_ := tb_at 443 (by rfl) (by rfl)
set_option maxRecDepth 100000 in
theorem kim_X2_init : Cond.instanceMethod yX2_init ∈ tb_ := tb_at 441 (by rfl) (by rfl)
set_option maxRecDepth 100000 in
theorem kin_X2_init : Cond.initialized RX2 ∈ tb_ := tb_at 171 (by rfl) (by rfl)
set_option maxRecDepth 100000 in
theorem kco_X2_init : Cond.code yX2_init cX2_init 1 none ∈ tb_ := tb_at 442 (by rfl) (by rfl)
set_option maxRecDepth 100000 in
theorem kins_X2 : Cond.instantiable RX2 6 ∈ tb_ := tb_at 439 (by rfl) (by rfl)
set_option maxRecDepth 100000 in
theorem kObj_RX3 : Cond.methodLink RX3 3 Lib.objectInit ∈ tb_ := tb_at 191 (by rfl) (by rfl)
set_option maxRecDepth 100000 in
theorem kcl_RX3_9 : Cond.classLink RX3 9 RX9 ∈ tb_ := tb_at 192 (by rfl) (by rfl)
set_option maxRecDepth 100000 in
theorem kim_X3_init : Cond.instanceMethod yX3_init ∈ tb_ := tb_at 189 (by rfl) (by rfl)
set_option maxRecDepth 100000 in
theorem kin_X3_init : Cond.initialized RX3 ∈ tb_ := tb_at 159 (by rfl) (by rfl)
set_option maxRecDepth 100000 in
theorem kco_X3_init : Cond.code yX3_init cX3_init 1 none ∈ tb_ := tb_at 190 (by rfl) (by rfl)
set_option maxRecDepth 100000 in
theorem kins_X3 : Cond.instantiable RX3 10 ∈ tb_ := tb_at 187 (by rfl) (by rfl)
set_option maxRecDepth 100000 in
theorem kObj_RX4 : Cond.methodLink RX4 3 Lib.objectInit ∈ tb_ := tb_at 435 (by rfl) (by rfl)
set_option maxRecDepth 100000 in
theorem kcl_RX4_9 : Cond.classLink RX4 9 RX10 ∈ tb_ := tb_at 436 (by rfl) (by rfl)
set_option maxRecDepth 100000 in
theorem kcl_RX4_27 : Cond.classLink RX4 27 RX2 ∈ tb_ := tb_at 438 (by rfl) (by rfl)
set_option maxRecDepth 100000 in
theorem kim_X4_init : Cond.instanceMethod yX4_init ∈ tb_ := tb_at 433 (by rfl) (by rfl)
set_option maxRecDepth 100000 in
theorem kin_X4_init : Cond.initialized RX4 ∈ tb_ := tb_at 170 (by rfl) (by rfl)
set_option maxRecDepth 100000 in
theorem kco_X4_init : Cond.code yX4_init cX4_init 2 none ∈ tb_ := tb_at 434 (by rfl) (by rfl)
set_option maxRecDepth 100000 in
theorem kins_X4 : Cond.instantiable RX4 7 ∈ tb_ := tb_at 431 (by rfl) (by rfl)
set_option maxRecDepth 100000 in
theorem kObj_RX5 : Cond.methodLink RX5 3 Lib.objectInit ∈ tb_ := tb_at 306 (by rfl) (by rfl)
set_option maxRecDepth 100000 in
theorem kcl_RX5_15 : Cond.classLink RX5 15 RX8 ∈ tb_ := tb_at 307 (by rfl) (by rfl)
set_option maxRecDepth 100000 in
theorem kim_X5_init : Cond.instanceMethod yX5_init ∈ tb_ := tb_at 304 (by rfl) (by rfl)
set_option maxRecDepth 100000 in
theorem kin_X5_init : Cond.initialized RX5 ∈ tb_ := tb_at 165 (by rfl) (by rfl)
set_option maxRecDepth 100000 in
theorem kco_X5_init : Cond.code yX5_init cX5_init 2 none ∈ tb_ := tb_at 305 (by rfl) (by rfl)
set_option maxRecDepth 100000 in
theorem kins_X5 : Cond.instantiable RX5 8 ∈ tb_ := tb_at 302 (by rfl) (by rfl)
set_option maxRecDepth 100000 in
theorem kObj_RX6 : Cond.methodLink RX6 3 Lib.objectInit ∈ tb_ := tb_at 655 (by rfl) (by rfl)
set_option maxRecDepth 100000 in
theorem kim_X6_init : Cond.instanceMethod yX6_init ∈ tb_ := tb_at 653 (by rfl) (by rfl)
set_option maxRecDepth 100000 in
theorem kin_X6_init : Cond.initialized RX6 ∈ tb_ := tb_at 174 (by rfl) (by rfl)
set_option maxRecDepth 100000 in
theorem kco_X6_init : Cond.code yX6_init cX6_init 1 none ∈ tb_ := tb_at 654 (by rfl) (by rfl)
set_option maxRecDepth 100000 in
theorem kins_X6 : Cond.instantiable RX6 14 ∈ tb_ := tb_at 651 (by rfl) (by rfl)
set_option maxRecDepth 100000 in
theorem kObj_RX7 : Cond.methodLink RX7 5 Lib.objectInit ∈ tb_ := tb_at 398 (by rfl) (by rfl)
set_option maxRecDepth 100000 in
theorem kim_X7_init : Cond.instanceMethod yX7_init ∈ tb_ := tb_at 396 (by rfl) (by rfl)
set_option maxRecDepth 100000 in
theorem kin_X7_init : Cond.initialized RX7 ∈ tb_ := tb_at 168 (by rfl) (by rfl)
set_option maxRecDepth 100000 in
theorem kco_X7_init : Cond.code yX7_init cX7_init 1 none ∈ tb_ := tb_at 397 (by rfl) (by rfl)
set_option maxRecDepth 100000 in
theorem kins_X7 : Cond.instantiable RX7 1 ∈ tb_ := tb_at 394 (by rfl) (by rfl)
set_option maxRecDepth 100000 in
theorem kObj_RX8 : Cond.methodLink RX8 3 Lib.objectInit ∈ tb_ := tb_at 313 (by rfl) (by rfl)
set_option maxRecDepth 100000 in
theorem kim_X8_init : Cond.instanceMethod yX8_init ∈ tb_ := tb_at 311 (by rfl) (by rfl)
set_option maxRecDepth 100000 in
theorem kin_X8_init : Cond.initialized RX8 ∈ tb_ := tb_at 166 (by rfl) (by rfl)
set_option maxRecDepth 100000 in
theorem kco_X8_init : Cond.code yX8_init cX8_init 1 none ∈ tb_ := tb_at 312 (by rfl) (by rfl)
set_option maxRecDepth 100000 in
theorem kins_X8 : Cond.instantiable RX8 4 ∈ tb_ := tb_at 309 (by rfl) (by rfl)
set_option maxRecDepth 100000 in
theorem kObj_RX9 : Cond.methodLink RX9 3 Lib.objectInit ∈ tb_ := tb_at 197 (by rfl) (by rfl)
set_option maxRecDepth 100000 in
theorem kim_X9_init : Cond.instanceMethod yX9_init ∈ tb_ := tb_at 195 (by rfl) (by rfl)
set_option maxRecDepth 100000 in
theorem kin_X9_init : Cond.initialized RX9 ∈ tb_ := tb_at 160 (by rfl) (by rfl)
set_option maxRecDepth 100000 in
theorem kco_X9_init : Cond.code yX9_init cX9_init 4 none ∈ tb_ := tb_at 196 (by rfl) (by rfl)
set_option maxRecDepth 100000 in
theorem kins_X9 : Cond.instantiable RX9 5 ∈ tb_ := tb_at 193 (by rfl) (by rfl)
set_option maxRecDepth 100000 in
theorem kObj_RX10 : Cond.methodLink RX10 3 Lib.objectInit ∈ tb_ := tb_at 469 (by rfl) (by rfl)
set_option maxRecDepth 100000 in
theorem kcl_RX10_15 : Cond.classLink RX10 15 RX1 ∈ tb_ := tb_at 470 (by rfl) (by rfl)
set_option maxRecDepth 100000 in
theorem kim_X10_init : Cond.instanceMethod yX10_init ∈ tb_ := tb_at 467 (by rfl) (by rfl)
set_option maxRecDepth 100000 in
theorem kin_X10_init : Cond.initialized RX10 ∈ tb_ := tb_at 172 (by rfl) (by rfl)
set_option maxRecDepth 100000 in
theorem kco_X10_init : Cond.code yX10_init cX10_init 2 none ∈ tb_ := tb_at 468 (by rfl) (by rfl)
set_option maxRecDepth 100000 in
theorem kins_X10 : Cond.instantiable RX10 18 ∈ tb_ := tb_at 465 (by rfl) (by rfl)
set_option maxRecDepth 100000 in
theorem kObj_RX11 : Cond.methodLink RX11 3 Lib.objectInit ∈ tb_ := tb_at 183 (by rfl) (by rfl)
set_option maxRecDepth 100000 in
theorem kcl_RX11_17 : Cond.classLink RX11 17 RX3 ∈ tb_ := tb_at 186 (by rfl) (by rfl)
set_option maxRecDepth 100000 in
theorem kcl_RX11_24 : Cond.classLink RX11 24 RX5 ∈ tb_ := tb_at 301 (by rfl) (by rfl)
set_option maxRecDepth 100000 in
theorem kcl_RX11_34 : Cond.classLink RX11 34 RX7 ∈ tb_ := tb_at 393 (by rfl) (by rfl)
set_option maxRecDepth 100000 in
theorem kcl_RX11_41 : Cond.classLink RX11 41 RX0 ∈ tb_ := tb_at 404 (by rfl) (by rfl)
set_option maxRecDepth 100000 in
theorem kcl_RX11_48 : Cond.classLink RX11 48 RX4 ∈ tb_ := tb_at 430 (by rfl) (by rfl)
set_option maxRecDepth 100000 in
theorem kcl_RX11_55 : Cond.classLink RX11 55 RX6 ∈ tb_ := tb_at 650 (by rfl) (by rfl)
set_option maxRecDepth 100000 in
theorem kim_X11_init : Cond.instanceMethod yX11_init ∈ tb_ := tb_at 181 (by rfl) (by rfl)
set_option maxRecDepth 100000 in
theorem kin_X11_init : Cond.initialized RX11 ∈ tb_ := tb_at 158 (by rfl) (by rfl)
set_option maxRecDepth 100000 in
theorem kco_X11_init : Cond.code yX11_init cX11_init 1 none ∈ tb_ := tb_at 182 (by rfl) (by rfl)
set_option maxRecDepth 100000 in
theorem kins_X11 : Cond.instantiable RX11 14 ∈ tb_ := tb_at 179 (by rfl) (by rfl)
set_option maxRecDepth 100000 in
theorem kObj_RX12 : Cond.methodLink RX12 7 Lib.objectInit ∈ tb_ := tb_at 1494 (by rfl) (by rfl)
set_option maxRecDepth 100000 in
theorem kim_X12_init : Cond.instanceMethod yX12_init ∈ tb_ := tb_at 1492 (by rfl) (by rfl)
set_option maxRecDepth 100000 in
theorem kin_X12_init : Cond.initialized RX12 ∈ tb_ := tb_at 176 (by rfl) (by rfl)
set_option maxRecDepth 100000 in
theorem kco_X12_init : Cond.code yX12_init cX12_init 1 none ∈ tb_ := tb_at 1493 (by rfl) (by rfl)
set_option maxRecDepth 100000 in
theorem kins_X12 : Cond.instantiable RX12 82 ∈ tb_ := tb_at 1490 (by rfl) (by rfl)
set_option maxRecDepth 100000 in
theorem kac_byte : Cond.arrayClass (newarray.typeOf .byte) ∈ tb_ := tb_at 267 (by rfl) (by rfl)
set_option maxRecDepth 100000 in
theorem kac_long : Cond.arrayClass (newarray.typeOf .long) ∈ tb_ := tb_at 268 (by rfl) (by rfl)
set_option maxRecDepth 100000 in
theorem kac_int : Cond.arrayClass (newarray.typeOf .int) ∈ tb_ := tb_at 269 (by rfl) (by rfl)
set_option maxRecDepth 100000 in
theorem kac_boolean : Cond.arrayClass (newarray.typeOf .boolean) ∈ tb_ := tb_at 429 (by rfl) (by rfl)
/-! words of constructors -/
theorem gtX0 : ∀ k, k < 5 → gt_ (tyX0 k) = true := by decide +kernel
theorem gtX1 : ∀ k, k < 11 → gt_ (tyX1 k) = true := by decide +kernel
theorem gtX2 : ∀ k, k < 6 → gt_ (tyX2 k) = true := by decide +kernel
theorem gtX3 : ∀ k, k < 10 → gt_ (tyX3 k) = true := by decide +kernel
theorem gtX4 : ∀ k, k < 7 → gt_ (tyX4 k) = true := by decide +kernel
theorem gtX5 : ∀ k, k < 8 → gt_ (tyX5 k) = true := by decide +kernel
theorem gtX6 : ∀ k, k < 14 → gt_ (tyX6 k) = true := by decide +kernel
theorem gtX7 : ∀ k, k < 1 → gt_ (tyX7 k) = true := by decide +kernel
theorem gtX8 : ∀ k, k < 4 → gt_ (tyX8 k) = true := by decide +kernel
theorem gtX9 : ∀ k, k < 5 → gt_ (tyX9 k) = true := by decide +kernel
theorem gtX10 : ∀ k, k < 18 → gt_ (tyX10 k) = true := by decide +kernel
theorem gtX11 : ∀ k, k < 14 → gt_ (tyX11 k) = true := by decide +kernel
theorem gtX12 : ∀ k, k < 82 → gt_ (tyX12 k) = true := by decide +kernel
theorem nvA {B : Nat} {x : Int} {t : FieldType} : ∀ z, vo_ B 2 x z → narrow (.array t) z = z ∧ fits (.array t) z = true := by
  rintro z (⟨_, rfl⟩ | ⟨_, rfl⟩)
  · exact ⟨rfl, rfl⟩
  · exact ⟨rfl, rfl⟩
section GZ
variable {E : En_} {p : Program} {l : Launch} {e : Env} {R : Room} {s : State} {m : MethodId} {args : Array Value} {below : List Frame} {meth : Method} {c : Code} {nL : Nat} {sz0 sz sz' : Int} {Q : State → Prop} {pc : Nat} {ls : List (Nat × AV_)} {st : List AV_} {v : V_}
theorem g_sz (hs : sz = sz') (kk : G_ E p l e R s m args below meth c nL sz0 Q pc ls st v sz') : G_ E p l e R s m args below meth c nL sz0 Q pc ls st v sz := by
  subst hs; exact kk
end GZ
