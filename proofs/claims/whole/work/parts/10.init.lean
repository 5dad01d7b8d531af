theorem zcl_L_7 : Cond.classLink RL 7 RX5 ∈ zgw := zgw_of (i := 16) (by decide +kernel) (by decide +kernel)
theorem zn_L_7 : yNw RL 7 5 := ⟨RX5, TX5, 9, rfl, by decide, zu_5, zcl_L_7, zgw_of (i := 17) (by decide +kernel) (by decide +kernel), zgw_of (i := 1) (by decide +kernel) (by decide +kernel), tyX5, tyX5_ok, by intro j hj; have : j = 0 ∨ j = 1 ∨ j = 2 ∨ j = 3 ∨ j = 4 ∨ j = 5 ∨ j = 6 ∨ j = 7 ∨ j = 8 := (by omega); rcases this with rfl | rfl | rfl | rfl | rfl | rfl | rfl | rfl | rfl <;> first | exact ⟨by decide, Or.inl ⟨rfl, rfl⟩⟩ | exact ⟨by decide, Or.inr ⟨⟨_, rfl⟩, rfl⟩⟩⟩
theorem zl_L_9 : zLk RL 9 yX5_init cX5_init 2 none 0 ∧ Cond.instanceMethod yX5_init ∈ zgw ∧ yX5_init.name = "<init>" := ⟨⟨Or.inl (zgw_of (i := 18) (by decide +kernel) (by decide +kernel)), zgw_of (i := 1) (by decide +kernel) (by decide +kernel), zgw_of (i := 20) (by decide +kernel) (by decide +kernel), ⟨by decide, by decide, by decide +kernel⟩, by decide⟩, zgw_of (i := 19) (by decide +kernel) (by decide +kernel), rfl⟩
theorem zo_X5_1 : Cond.methodLink RX5 1 Lib.objectInit ∈ zgw ∧ Cond.instanceMethod Lib.objectInit ∈ zgw ∧ Cond.code Lib.objectInit ⟨#[0xb1]⟩ 1 none ∈ zgw := ⟨zgw_of (i := 21) (by decide +kernel) (by decide +kernel), zgw_of (i := 22) (by decide +kernel) (by decide +kernel), zgw_of (i := 23) (by decide +kernel) (by decide +kernel)⟩
theorem zcl_X5_7 : Cond.classLink RX5 7 RX0 ∈ zgw := zgw_of (i := 24) (by decide +kernel) (by decide +kernel)
theorem zn_X5_7 : yNw RX5 7 0 := ⟨RX0, TX0, 7, rfl, by decide, zu_0, zcl_X5_7, zgw_of (i := 25) (by decide +kernel) (by decide +kernel), zgw_of (i := 2) (by decide +kernel) (by decide +kernel), tyX0, tyX0_ok, by intro j hj; have : j = 0 ∨ j = 1 ∨ j = 2 ∨ j = 3 ∨ j = 4 ∨ j = 5 ∨ j = 6 := (by omega); rcases this with rfl | rfl | rfl | rfl | rfl | rfl | rfl <;> first | exact ⟨by decide, Or.inl ⟨rfl, rfl⟩⟩ | exact ⟨by decide, Or.inr ⟨⟨_, rfl⟩, rfl⟩⟩⟩
theorem zl_X5_9 : zLk RX5 9 yX0_init cX0_init 2 none 0 ∧ Cond.instanceMethod yX0_init ∈ zgw ∧ yX0_init.name = "<init>" := ⟨⟨Or.inr ⟨"GroundTents", List.mem_append_right _ (List.mem_of_getElem? (i := 26) (by decide +kernel))⟩, zgw_of (i := 2) (by decide +kernel) (by decide +kernel), zgw_of (i := 28) (by decide +kernel) (by decide +kernel), ⟨by decide, by decide, by decide +kernel⟩, by decide⟩, zgw_of (i := 27) (by decide +kernel) (by decide +kernel), rfl⟩
theorem zo_X0_3 : Cond.methodLink RX0 3 Lib.objectInit ∈ zgw ∧ Cond.instanceMethod Lib.objectInit ∈ zgw ∧ Cond.code Lib.objectInit ⟨#[0xb1]⟩ 1 none ∈ zgw := ⟨zgw_of (i := 29) (by decide +kernel) (by decide +kernel), zgw_of (i := 22) (by decide +kernel) (by decide +kernel), zgw_of (i := 23) (by decide +kernel) (by decide +kernel)⟩
theorem zcl_X0_18 : Cond.classLink RX0 18 RX4 ∈ zgw := zgw_of (i := 30) (by decide +kernel) (by decide +kernel)
theorem zn_X0_18 : yNw RX0 18 4 := ⟨RX4, TX4, 4, rfl, by decide, zu_4, zcl_X0_18, zgw_of (i := 35) (by decide +kernel) (by decide +kernel), zgw_of (i := 4) (by decide +kernel) (by decide +kernel), tyX4, tyX4_ok, by intro j hj; have : j = 0 ∨ j = 1 ∨ j = 2 ∨ j = 3 := (by omega); rcases this with rfl | rfl | rfl | rfl <;> first | exact ⟨by decide, Or.inl ⟨rfl, rfl⟩⟩ | exact ⟨by decide, Or.inr ⟨⟨_, rfl⟩, rfl⟩⟩⟩
theorem zl_X0_43 : zLk RX0 43 yX4_init cX4_init 1 none 0 ∧ Cond.instanceMethod yX4_init ∈ zgw ∧ yX4_init.name = "<init>" := ⟨⟨Or.inr ⟨"GroundTents", List.mem_append_right _ (List.mem_of_getElem? (i := 36) (by decide +kernel))⟩, zgw_of (i := 4) (by decide +kernel) (by decide +kernel), zgw_of (i := 38) (by decide +kernel) (by decide +kernel), ⟨by decide, by decide, by decide +kernel⟩, by decide⟩, zgw_of (i := 37) (by decide +kernel) (by decide +kernel), rfl⟩
theorem zo_X4_3 : Cond.methodLink RX4 3 Lib.objectInit ∈ zgw ∧ Cond.instanceMethod Lib.objectInit ∈ zgw ∧ Cond.code Lib.objectInit ⟨#[0xb1]⟩ 1 none ∈ zgw := ⟨zgw_of (i := 39) (by decide +kernel) (by decide +kernel), zgw_of (i := 22) (by decide +kernel) (by decide +kernel), zgw_of (i := 23) (by decide +kernel) (by decide +kernel)⟩
theorem zx_X4_21 : yFw RX4 21 4 3 := ⟨RX4, TX4, 4, rfl, by decide, zu_4, zgw_of (i := 49) (by decide +kernel) (by decide +kernel), rfl, rfl, ⟨tyX4 3, by decide +kernel, fun a => ⟨rfl, rfl⟩⟩, tyX4, tyX4_ok, nmX4⟩
theorem zx_X0_9 : yFw RX0 9 0 0 := ⟨RX0, TX0, 7, rfl, by decide, zu_0, zgw_of (i := 63) (by decide +kernel) (by decide +kernel), rfl, rfl, ⟨tyX0 0, by decide +kernel, fun a => ⟨rfl, rfl⟩⟩, tyX0, tyX0_ok, nmX0⟩
theorem zx_X0_15 : yFw RX0 15 0 1 := ⟨RX0, TX0, 7, rfl, by decide, zu_0, zgw_of (i := 66) (by decide +kernel) (by decide +kernel), rfl, rfl, ⟨tyX0 1, by decide +kernel, fun a => ⟨rfl, rfl⟩⟩, tyX0, tyX0_ok, nmX0⟩
theorem zx_X0_20 : yFw RX0 20 0 2 := ⟨RX0, TX0, 7, rfl, by decide, zu_0, zgw_of (i := 68) (by decide +kernel) (by decide +kernel), rfl, rfl, ⟨tyX0 2, by decide +kernel, fun a => ⟨rfl, rfl⟩⟩, tyX0, tyX0_ok, nmX0⟩
theorem zcl_X5_22 : Cond.classLink RX5 22 RX1 ∈ zgw := zgw_of (i := 95) (by decide +kernel) (by decide +kernel)
theorem zn_X5_22 : yNw RX5 22 1 := ⟨RX1, TX1, 4, rfl, by decide, zu_1, zcl_X5_22, zgw_of (i := 96) (by decide +kernel) (by decide +kernel), zgw_of (i := 5) (by decide +kernel) (by decide +kernel), tyX1, tyX1_ok, by intro j hj; have : j = 0 ∨ j = 1 ∨ j = 2 ∨ j = 3 := (by omega); rcases this with rfl | rfl | rfl | rfl <;> first | exact ⟨by decide, Or.inl ⟨rfl, rfl⟩⟩ | exact ⟨by decide, Or.inr ⟨⟨_, rfl⟩, rfl⟩⟩⟩
theorem zl_X5_24 : zLk RX5 24 yX1_init cX1_init 1 none 0 ∧ Cond.instanceMethod yX1_init ∈ zgw ∧ yX1_init.name = "<init>" := ⟨⟨Or.inr ⟨"GroundTents", List.mem_append_right _ (List.mem_of_getElem? (i := 97) (by decide +kernel))⟩, zgw_of (i := 5) (by decide +kernel) (by decide +kernel), zgw_of (i := 99) (by decide +kernel) (by decide +kernel), ⟨by decide, by decide, by decide +kernel⟩, by decide⟩, zgw_of (i := 98) (by decide +kernel) (by decide +kernel), rfl⟩
theorem zo_X1_3 : Cond.methodLink RX1 3 Lib.objectInit ∈ zgw ∧ Cond.instanceMethod Lib.objectInit ∈ zgw ∧ Cond.code Lib.objectInit ⟨#[0xb1]⟩ 1 none ∈ zgw := ⟨zgw_of (i := 100) (by decide +kernel) (by decide +kernel), zgw_of (i := 22) (by decide +kernel) (by decide +kernel), zgw_of (i := 23) (by decide +kernel) (by decide +kernel)⟩
theorem zx_X1_9 : yFw RX1 9 1 0 := ⟨RX1, TX1, 4, rfl, by decide, zu_1, zgw_of (i := 101) (by decide +kernel) (by decide +kernel), rfl, rfl, ⟨tyX1 0, by decide +kernel, fun a => ⟨rfl, rfl⟩⟩, tyX1, tyX1_ok, nmX1⟩
theorem zx_X1_15 : yFw RX1 15 1 1 := ⟨RX1, TX1, 4, rfl, by decide, zu_1, zgw_of (i := 102) (by decide +kernel) (by decide +kernel), rfl, rfl, ⟨tyX1 1, by decide +kernel, fun a => ⟨rfl, rfl⟩⟩, tyX1, tyX1_ok, nmX1⟩
theorem zx_X1_18 : yFw RX1 18 1 2 := ⟨RX1, TX1, 4, rfl, by decide, zu_1, zgw_of (i := 103) (by decide +kernel) (by decide +kernel), rfl, rfl, ⟨tyX1 2, by decide +kernel, fun a => ⟨rfl, rfl⟩⟩, tyX1, tyX1_ok, nmX1⟩
theorem zcl_X5_29 : Cond.classLink RX5 29 RX3 ∈ zgw := zgw_of (i := 114) (by decide +kernel) (by decide +kernel)
theorem zn_X5_29 : yNw RX5 29 3 := ⟨RX3, TX3, 6, rfl, by decide, zu_3, zcl_X5_29, zgw_of (i := 115) (by decide +kernel) (by decide +kernel), zgw_of (i := 6) (by decide +kernel) (by decide +kernel), tyX3, tyX3_ok, by intro j hj; have : j = 0 ∨ j = 1 ∨ j = 2 ∨ j = 3 ∨ j = 4 ∨ j = 5 := (by omega); rcases this with rfl | rfl | rfl | rfl | rfl | rfl <;> first | exact ⟨by decide, Or.inl ⟨rfl, rfl⟩⟩ | exact ⟨by decide, Or.inr ⟨⟨_, rfl⟩, rfl⟩⟩⟩
theorem zl_X5_31 : zLk RX5 31 yX3_init cX3_init 1 none 0 ∧ Cond.instanceMethod yX3_init ∈ zgw ∧ yX3_init.name = "<init>" := ⟨⟨Or.inr ⟨"GroundTents", List.mem_append_right _ (List.mem_of_getElem? (i := 116) (by decide +kernel))⟩, zgw_of (i := 6) (by decide +kernel) (by decide +kernel), zgw_of (i := 118) (by decide +kernel) (by decide +kernel), ⟨by decide, by decide, by decide +kernel⟩, by decide⟩, zgw_of (i := 117) (by decide +kernel) (by decide +kernel), rfl⟩
theorem zo_X3_3 : Cond.methodLink RX3 3 Lib.objectInit ∈ zgw ∧ Cond.instanceMethod Lib.objectInit ∈ zgw ∧ Cond.code Lib.objectInit ⟨#[0xb1]⟩ 1 none ∈ zgw := ⟨zgw_of (i := 119) (by decide +kernel) (by decide +kernel), zgw_of (i := 22) (by decide +kernel) (by decide +kernel), zgw_of (i := 23) (by decide +kernel) (by decide +kernel)⟩
theorem zx_X3_9 : yFw RX3 9 3 0 := ⟨RX3, TX3, 6, rfl, by decide, zu_3, zgw_of (i := 120) (by decide +kernel) (by decide +kernel), rfl, rfl, ⟨tyX3 0, by decide +kernel, fun a => ⟨rfl, rfl⟩⟩, tyX3, tyX3_ok, nmX3⟩
theorem zcl_X5_36 : Cond.classLink RX5 36 RX2 ∈ zgw := zgw_of (i := 140) (by decide +kernel) (by decide +kernel)
theorem zn_X5_36 : yNw RX5 36 2 := ⟨RX2, TX2, 3, rfl, by decide, zu_2, zcl_X5_36, zgw_of (i := 142) (by decide +kernel) (by decide +kernel), zgw_of (i := 7) (by decide +kernel) (by decide +kernel), tyX2, tyX2_ok, by intro j hj; have : j = 0 ∨ j = 1 ∨ j = 2 := (by omega); rcases this with rfl | rfl | rfl <;> first | exact ⟨by decide, Or.inl ⟨rfl, rfl⟩⟩ | exact ⟨by decide, Or.inr ⟨⟨_, rfl⟩, rfl⟩⟩⟩
theorem zl_X5_53 : zLk RX5 53 yX2_init cX2_init 1 none 0 ∧ Cond.instanceMethod yX2_init ∈ zgw ∧ yX2_init.name = "<init>" := ⟨⟨Or.inr ⟨"GroundTents", List.mem_append_right _ (List.mem_of_getElem? (i := 143) (by decide +kernel))⟩, zgw_of (i := 7) (by decide +kernel) (by decide +kernel), zgw_of (i := 145) (by decide +kernel) (by decide +kernel), ⟨by decide, by decide, by decide +kernel⟩, by decide⟩, zgw_of (i := 144) (by decide +kernel) (by decide +kernel), rfl⟩
theorem zo_X2_3 : Cond.methodLink RX2 3 Lib.objectInit ∈ zgw ∧ Cond.instanceMethod Lib.objectInit ∈ zgw ∧ Cond.code Lib.objectInit ⟨#[0xb1]⟩ 1 none ∈ zgw := ⟨zgw_of (i := 146) (by decide +kernel) (by decide +kernel), zgw_of (i := 22) (by decide +kernel) (by decide +kernel), zgw_of (i := 23) (by decide +kernel) (by decide +kernel)⟩
theorem zx_X2_18 : yFw RX2 18 2 2 := ⟨RX2, TX2, 3, rfl, by decide, zu_2, zgw_of (i := 151) (by decide +kernel) (by decide +kernel), rfl, rfl, ⟨tyX2 2, by decide +kernel, fun a => ⟨rfl, rfl⟩⟩, tyX2, tyX2_ok, nmX2⟩
theorem zx_X5_10 : yFw RX5 10 5 0 := ⟨RX5, TX5, 9, rfl, by decide, zu_5, zgw_of (i := 160) (by decide +kernel) (by decide +kernel), rfl, rfl, ⟨tyX5 0, by decide +kernel, fun a => ⟨rfl, rfl⟩⟩, tyX5, tyX5_ok, nmX5⟩
theorem zx_X5_16 : yFw RX5 16 5 1 := ⟨RX5, TX5, 9, rfl, by decide, zu_5, zgw_of (i := 161) (by decide +kernel) (by decide +kernel), rfl, rfl, ⟨tyX5 1, by decide +kernel, fun a => ⟨rfl, rfl⟩⟩, tyX5, tyX5_ok, nmX5⟩
theorem zx_X5_19 : yFw RX5 19 5 2 := ⟨RX5, TX5, 9, rfl, by decide, zu_5, zgw_of (i := 162) (by decide +kernel) (by decide +kernel), rfl, rfl, ⟨tyX5 2, by decide +kernel, fun a => ⟨rfl, rfl⟩⟩, tyX5, tyX5_ok, nmX5⟩
theorem zx_X5_25 : yFw RX5 25 5 3 := ⟨RX5, TX5, 9, rfl, by decide, zu_5, zgw_of (i := 163) (by decide +kernel) (by decide +kernel), rfl, rfl, ⟨tyX5 3, by decide +kernel, fun a => ⟨rfl, rfl⟩⟩, tyX5, tyX5_ok, nmX5⟩
theorem zx_X5_32 : yFw RX5 32 5 4 := ⟨RX5, TX5, 9, rfl, by decide, zu_5, zgw_of (i := 164) (by decide +kernel) (by decide +kernel), rfl, rfl, ⟨tyX5 4, by decide +kernel, fun a => ⟨rfl, rfl⟩⟩, tyX5, tyX5_ok, nmX5⟩
theorem zx_X5_38 : yFw RX5 38 5 5 := ⟨RX5, TX5, 9, rfl, by decide, zu_5, zgw_of (i := 165) (by decide +kernel) (by decide +kernel), rfl, rfl, ⟨tyX5 5, by decide +kernel, fun a => ⟨rfl, rfl⟩⟩, tyX5, tyX5_ok, nmX5⟩
theorem zx_X5_42 : yFw RX5 42 5 6 := ⟨RX5, TX5, 9, rfl, by decide, zu_5, zgw_of (i := 166) (by decide +kernel) (by decide +kernel), rfl, rfl, ⟨tyX5 6, by decide +kernel, fun a => ⟨rfl, rfl⟩⟩, tyX5, tyX5_ok, nmX5⟩
theorem zx_X5_46 : yFw RX5 46 5 7 := ⟨RX5, TX5, 9, rfl, by decide, zu_5, zgw_of (i := 167) (by decide +kernel) (by decide +kernel), rfl, rfl, ⟨tyX5 7, by decide +kernel, fun a => ⟨rfl, rfl⟩⟩, tyX5, tyX5_ok, nmX5⟩
theorem zcl_L_10 : Cond.classLink RL 10 RX6 ∈ zgw := zgw_of (i := 777) (by decide +kernel) (by decide +kernel)
theorem zn_L_10 : yNw RL 10 6 := ⟨RX6, TX6, 16, rfl, by decide, zu_6, zcl_L_10, zgw_of (i := 778) (by decide +kernel) (by decide +kernel), zgw_of (i := 8) (by decide +kernel) (by decide +kernel), tyX6, tyX6_ok, by intro j hj; have : j = 0 ∨ j = 1 ∨ j = 2 ∨ j = 3 ∨ j = 4 ∨ j = 5 ∨ j = 6 ∨ j = 7 ∨ j = 8 ∨ j = 9 ∨ j = 10 ∨ j = 11 ∨ j = 12 ∨ j = 13 ∨ j = 14 ∨ j = 15 := (by omega); rcases this with rfl | rfl | rfl | rfl | rfl | rfl | rfl | rfl | rfl | rfl | rfl | rfl | rfl | rfl | rfl | rfl <;> first | exact ⟨by decide, Or.inl ⟨rfl, rfl⟩⟩ | exact ⟨by decide, Or.inr ⟨⟨_, rfl⟩, rfl⟩⟩⟩
theorem zl_L_12 : zLk RL 12 yX6_init cX6_init 2 none 0 ∧ Cond.instanceMethod yX6_init ∈ zgw ∧ yX6_init.name = "<init>" := ⟨⟨Or.inl (zgw_of (i := 779) (by decide +kernel) (by decide +kernel)), zgw_of (i := 8) (by decide +kernel) (by decide +kernel), zgw_of (i := 781) (by decide +kernel) (by decide +kernel), ⟨by decide, by decide, by decide +kernel⟩, by decide⟩, zgw_of (i := 780) (by decide +kernel) (by decide +kernel), rfl⟩
theorem zo_X6_3 : Cond.methodLink RX6 3 Lib.objectInit ∈ zgw ∧ Cond.instanceMethod Lib.objectInit ∈ zgw ∧ Cond.code Lib.objectInit ⟨#[0xb1]⟩ 1 none ∈ zgw := ⟨zgw_of (i := 782) (by decide +kernel) (by decide +kernel), zgw_of (i := 22) (by decide +kernel) (by decide +kernel), zgw_of (i := 23) (by decide +kernel) (by decide +kernel)⟩
theorem zx_X6_9 : yFw RX6 9 6 0 := ⟨RX6, TX6, 16, rfl, by decide, zu_6, zgw_of (i := 783) (by decide +kernel) (by decide +kernel), rfl, rfl, ⟨tyX6 0, by decide +kernel, fun a => ⟨rfl, rfl⟩⟩, tyX6, tyX6_ok, nmX6⟩
theorem zx_X6_13 : yFw RX6 13 6 1 := ⟨RX6, TX6, 16, rfl, by decide, zu_6, zgw_of (i := 784) (by decide +kernel) (by decide +kernel), rfl, rfl, ⟨tyX6 1, by decide +kernel, fun a => ⟨rfl, rfl⟩⟩, tyX6, tyX6_ok, nmX6⟩
theorem zx_X6_16 : yFw RX6 16 6 2 := ⟨RX6, TX6, 16, rfl, by decide, zu_6, zgw_of (i := 785) (by decide +kernel) (by decide +kernel), rfl, rfl, ⟨tyX6 2, by decide +kernel, fun a => ⟨rfl, rfl⟩⟩, tyX6, tyX6_ok, nmX6⟩
theorem zx_X6_19 : yFw RX6 19 6 4 := ⟨RX6, TX6, 16, rfl, by decide, zu_6, zgw_of (i := 787) (by decide +kernel) (by decide +kernel), rfl, rfl, ⟨tyX6 4, by decide +kernel, fun a => ⟨rfl, rfl⟩⟩, tyX6, tyX6_ok, nmX6⟩
theorem zx_X6_22 : yFw RX6 22 6 5 := ⟨RX6, TX6, 16, rfl, by decide, zu_6, zgw_of (i := 788) (by decide +kernel) (by decide +kernel), rfl, rfl, ⟨tyX6 5, by decide +kernel, fun a => ⟨rfl, rfl⟩⟩, tyX6, tyX6_ok, nmX6⟩
theorem zx_X6_25 : yFw RX6 25 6 6 := ⟨RX6, TX6, 16, rfl, by decide, zu_6, zgw_of (i := 789) (by decide +kernel) (by decide +kernel), rfl, rfl, ⟨tyX6 6, by decide +kernel, fun a => ⟨rfl, rfl⟩⟩, tyX6, tyX6_ok, nmX6⟩
theorem zx_X6_28 : yFw RX6 28 6 7 := ⟨RX6, TX6, 16, rfl, by decide, zu_6, zgw_of (i := 790) (by decide +kernel) (by decide +kernel), rfl, rfl, ⟨tyX6 7, by decide +kernel, fun a => ⟨rfl, rfl⟩⟩, tyX6, tyX6_ok, nmX6⟩
theorem zx_X6_31 : yFw RX6 31 6 12 := ⟨RX6, TX6, 16, rfl, by decide, zu_6, zgw_of (i := 795) (by decide +kernel) (by decide +kernel), rfl, rfl, ⟨tyX6 12, by decide +kernel, fun a => ⟨rfl, rfl⟩⟩, tyX6, tyX6_ok, nmX6⟩
theorem zx_X6_34 : yFw RX6 34 6 13 := ⟨RX6, TX6, 16, rfl, by decide, zu_6, zgw_of (i := 796) (by decide +kernel) (by decide +kernel), rfl, rfl, ⟨tyX6 13, by decide +kernel, fun a => ⟨rfl, rfl⟩⟩, tyX6, tyX6_ok, nmX6⟩
theorem zx_X6_37 : yFw RX6 37 6 14 := ⟨RX6, TX6, 16, rfl, by decide, zu_6, zgw_of (i := 797) (by decide +kernel) (by decide +kernel), rfl, rfl, ⟨tyX6 14, by decide +kernel, fun a => ⟨rfl, rfl⟩⟩, tyX6, tyX6_ok, nmX6⟩
theorem zx_X6_40 : yFw RX6 40 6 15 := ⟨RX6, TX6, 16, rfl, by decide, zu_6, zgw_of (i := 798) (by decide +kernel) (by decide +kernel), rfl, rfl, ⟨tyX6 15, by decide +kernel, fun a => ⟨rfl, rfl⟩⟩, tyX6, tyX6_ok, nmX6⟩
theorem zarr_int : Cond.arrayClass .int ∈ zgw := zgw_of (i := 62) (by decide +kernel) (by decide +kernel)
def ygO (μ : zMem) (n0 mc c : Nat) : Bool := decide (yn μ < 78) && (decide (zkd (yn μ) = c) && (decide (yn (yk μ) = yn μ + 1) && ((List.range 16).all (fun j => decide (μ (yn μ) j = 0)) && decide (yn μ < n0 + mc))))
theorem ygO_ok {μ : zMem} {n0 mc c : Nat} (h : ygO μ n0 mc c = true) : yn μ < 78 ∧ zkd (yn μ) = c ∧ yn (yk μ) = yn μ + 1 ∧ (∀ j, j < 16 → μ (yn μ) j = 0) ∧ yn μ < n0 + mc := by
  simp only [ygO, Bool.and_eq_true, decide_eq_true_eq, List.all_eq_true, List.mem_range] at h
  exact h
def ygA (μ : zMem) (n0 mc c : Nat) (n : Int32) : Bool := decide (yn μ < 78) && (decide (zkd (yn μ) = c) && (decide (yn (yk μ) = yn μ + 1) && ((List.range 160).all (fun j => decide (μ (yn μ) j = 0)) && (decide (yn μ < n0 + mc) && (decide (¬ n < 0) && (decide (n.toNatClampNeg = zln (yn μ)) && decide (n.toNatClampNeg ≤ 160)))))))
theorem ygA_ok {μ : zMem} {n0 mc c : Nat} {n : Int32} (h : ygA μ n0 mc c n = true) : yn μ < 78 ∧ zkd (yn μ) = c ∧ yn (yk μ) = yn μ + 1 ∧ (∀ j, j < 160 → μ (yn μ) j = 0) ∧ yn μ < n0 + mc ∧ (¬ n < 0 ∧ n.toNatClampNeg = zln (yn μ) ∧ n.toNatClampNeg ≤ 160) := by
  simp only [ygA, Bool.and_eq_true, decide_eq_true_eq, List.all_eq_true, List.mem_range] at h
  exact h
def bJ7_fill_53178_5 (n0 : Nat) : Nat → Nat → Int32 → Int32 → Int32 → zMem → Option (Unit × zMem)
  | 0, _, _, _, _, _ => none
  | n + 1, a0, a1, a2, a3, μ =>
    if a3 ≤ a2 then
      zgd (yn μ ≤ n0 + 0) (
      some ((), μ))
    else
      zgd (a0 < yn μ) (
      zgd (zib a2 (zln a0)) (
      bJ7_fill_53178_5 n0 n a0 a1 (a2 + (1 : Int32)) a3 (zst μ a0 (a2).toNatClampNeg a1)))
set_option maxRecDepth 100000 in
theorem vJ7_fill_53178_5 {g : zG} {κ : zK} {n0 : Nat} (X : yC g κ RJ7 cJ7_fill_53178 4 0 0 n0) {Q : Unit → zMem → Prop} (hin : ∃ κ1 : Method, κ1.name = yJ7_fill_53178.name ∧ κ.2.1.2.2.1 = κ1) (hret : ∀ pc lv μ', decode cJ7_fill_53178 pc = .ok (.return_, 1) → Q () μ' → yn μ' ≤ n0 + 0 → yV g κ n0 pc lv [] μ') : ∀ (n : Nat) (a0 : Nat) (a1 : Int32) (a2 : Int32) (a3 : Int32) (μ : zMem) (ha0 : zR a0 7 (zln a0)), zok (bJ7_fill_53178_5 n0 n a0 a1 a2 a3 μ) Q → yV g κ n0 5 [(0, .ref (zad g a0)), (1, .int a1), (2, .int a2), (3, .int a3)] [] μ := by
  intro n
  induction n with
  | zero =>
    intro a0 a1 a2 a3 μ ha0 h
    exact h.elim
  | succ n ih =>
    intro a0 a1 a2 a3 μ ha0 h
    rw [bJ7_fill_53178_5] at h
    refine yi_iload_n (pc' := 6) X dJ7_fill_53178_5 rfl rfl 2 rfl ?_
    refine yi_iload_n (pc' := 7) X dJ7_fill_53178_6 rfl rfl 3 rfl ?_
    refine yi_icmp_ge (pc' := 10) (tgt := 20) X dJ7_fill_53178_7 rfl rfl (fun c => ?_) (fun c => ?_)
    · replace h := zok_t h c
      obtain ⟨g2, h⟩ := zok_g h
      exact hret _ _ _ dJ7_fill_53178_20 h g2
    · replace h := zok_f h c
      refine yi_aload_n (pc' := 11) X dJ7_fill_53178_10 rfl rfl 0 rfl ?_
      refine yi_iload_n (pc' := 12) X dJ7_fill_53178_11 rfl rfl 2 rfl ?_
      refine yi_iload_n (pc' := 13) X dJ7_fill_53178_12 rfl rfl 1 rfl ?_
      obtain ⟨g3, h⟩ := zok_g h
      obtain ⟨g4, h⟩ := zok_g h
      refine yi_iast (pc' := 14) X ha0.1 g3 (by rw [ha0.2]; exact g4) dJ7_fill_53178_13 rfl ?_
      refine yi_iinc (pc' := 17) (v := (a2 + (1 : Int32))) X dJ7_fill_53178_14 rfl 2 rfl rfl (by decide) [(2, .int (a2 + (1 : Int32))), (0, .ref (zad g a0)), (1, .int a1), (3, .int a3)] rfl ?_
      refine yi_goto (pc' := 5) X dJ7_fill_53178_17 rfl ?_
      exact yi_sub X [1, 2, 0, 3] _ rfl (ih a0 a1 (a2 + (1 : Int32)) a3 ((zst μ a0 (a2).toNatClampNeg a1)) ha0 h)
def bJ7_fill_53178 (n0 : Nat) (a0 : Nat) (a1 : Int32) (μ : zMem) : Option (Unit × zMem) :=
  zgd (a0 < yn μ) (
  bJ7_fill_53178_5 n0 200 a0 a1 (0 : Int32) (Int32.ofNat (zln a0)) μ)
set_option maxRecDepth 100000 in
set_option maxHeartbeats 4000000 in
theorem uJ7_fill_53178 (g : zG) {a0 : Nat} {a1 : Int32} {μ : zMem} {Q : Unit → zMem → Prop} (ha0 : zkd a0 = 7) (h : zok (bJ7_fill_53178 (yn μ) a0 a1 μ) Q) : yTv g yJ7_fill_53178 cJ7_fill_53178 4 0 0 [.ref (zad g a0), .int a1] μ Q := by
  refine yTv_of RJ7 (by decide) rfl (Nat.le_of_ble_eq_true rfl) ?_
  intro κ hin X hret
  unfold bJ7_fill_53178 at h
  have ha0 : zR a0 7 (zln a0) := ⟨ha0, rfl⟩
  refine yi_iconst (pc' := 1) (v := (0 : Int32)) X dJ7_fill_53178_0 rfl rfl ?_
  refine yi_istore_n (pc' := 2) X dJ7_fill_53178_1 rfl rfl (by decide) [(2, .int (0 : Int32)), (0, .ref (zad g a0)), (1, .int a1)] rfl ?_
  refine yi_aload_n (pc' := 3) X dJ7_fill_53178_2 rfl rfl 1 rfl ?_
  obtain ⟨g1, h⟩ := zok_g h
  refine yi_alen (pc' := 4) X ha0.1 g1 dJ7_fill_53178_3 rfl ?_
  refine yi_istore_n (pc' := 5) X dJ7_fill_53178_4 rfl rfl (by decide) [(3, .int (Int32.ofNat (zln a0))), (2, .int (0 : Int32)), (0, .ref (zad g a0)), (1, .int a1)] rfl ?_
  exact yi_sub X [2, 3, 1, 0] _ rfl (vJ7_fill_53178_5 X hin hret 200 a0 a1 (0 : Int32) (Int32.ofNat (zln a0)) (μ) ha0 h)
def bX4_init (n0 : Nat) (a0 : Nat) (μ : zMem) : Option (Unit × zMem) :=
  zgd (a0 < yn μ) (
  zgd (a0 < yn (zst μ a0 0 (0 : Int32))) (
  zgd (a0 < yn (zst (zst μ a0 0 (0 : Int32)) a0 1 (-1 : Int32))) (
  zgd (ygA (zst (zst (zst μ a0 0 (0 : Int32)) a0 1 (-1 : Int32)) a0 2 (0 : Int32)) n0 1 7 (4 : Int32) = true) (
  zgd (a0 < yn (yk (zst (zst (zst μ a0 0 (0 : Int32)) a0 1 (-1 : Int32)) a0 2 (0 : Int32))) ∧ (yn (zst (zst (zst μ a0 0 (0 : Int32)) a0 1 (-1 : Int32)) a0 2 (0 : Int32))) = a0 + 1) (
  zgd (yn (zst (yk (zst (zst (zst μ a0 0 (0 : Int32)) a0 1 (-1 : Int32)) a0 2 (0 : Int32))) a0 3 1) ≤ n0 + 1) (
  some ((), (zst (yk (zst (zst (zst μ a0 0 (0 : Int32)) a0 1 (-1 : Int32)) a0 2 (0 : Int32))) a0 3 1))))))))
set_option maxRecDepth 100000 in
set_option maxHeartbeats 4000000 in
theorem uX4_init (g : zG) {a0 : Nat} {μ : zMem} {Q : Unit → zMem → Prop} (ha0 : zkd a0 = 4) (h : zok (bX4_init (yn μ) a0 μ) Q) : yTv g yX4_init cX4_init 1 1 1 [.ref (zad g a0)] μ Q := by
  refine yTv_of RX4 (by decide) rfl (Nat.le_of_ble_eq_true rfl) ?_
  intro κ hin X hret
  unfold bX4_init at h
  refine yi_aload_n (pc' := 1) X dX4_init_0 rfl rfl 0 rfl ?_
  refine yi_obj (pc' := 4) X zo_X4_3 (Nat.le_of_ble_eq_true rfl) (by decide) dX4_init_1 rfl ?_
  refine yi_aload_n (pc' := 5) X dX4_init_4 rfl rfl 0 rfl ?_
  refine yi_iconst (pc' := 6) (v := (0 : Int32)) X dX4_init_5 rfl rfl ?_
  obtain ⟨g1, h⟩ := zok_g h
  refine yi_puti (pc' := 9) X zf_X4_9 zw_4_0 rfl rfl rfl (by decide) ha0 g1 dX4_init_6 rfl ?_
  refine yi_aload_n (pc' := 10) X dX4_init_9 rfl rfl 0 rfl ?_
  refine yi_iconst (pc' := 11) (v := (-1 : Int32)) X dX4_init_10 rfl rfl ?_
  obtain ⟨g2, h⟩ := zok_g h
  refine yi_puti (pc' := 14) X zf_X4_15 zw_4_1 rfl rfl rfl (by decide) ha0 g2 dX4_init_11 rfl ?_
  refine yi_aload_n (pc' := 15) X dX4_init_14 rfl rfl 0 rfl ?_
  refine yi_iconst (pc' := 16) (v := (0 : Int32)) X dX4_init_15 rfl rfl ?_
  obtain ⟨g3, h⟩ := zok_g h
  refine yi_puti (pc' := 19) X zf_X4_18 zw_4_2 rfl rfl rfl (by decide) ha0 g3 dX4_init_16 rfl ?_
  refine yi_aload_n (pc' := 20) X dX4_init_19 rfl rfl 0 rfl ?_
  refine yi_iconst (pc' := 21) (v := (4 : Int32)) X dX4_init_20 rfl rfl ?_
  obtain ⟨g4, h⟩ := zok_g h
  refine yi_newi (pc' := 23) X zarr_int (ygA_ok g4) dX4_init_21 rfl ?_
  have f5 : zR (yn (zst (zst (zst μ a0 0 (0 : Int32)) a0 1 (-1 : Int32)) a0 2 (0 : Int32))) 7 (zln (yn (zst (zst (zst μ a0 0 (0 : Int32)) a0 1 (-1 : Int32)) a0 2 (0 : Int32)))) := ⟨(ygA_ok g4).2.1, rfl⟩
  obtain ⟨g6, h⟩ := zok_g h
  refine yi_putr (pc' := 26) X zx_X4_21 hin rfl (by decide) ha0 g6 dX4_init_23 rfl ?_
  obtain ⟨g7, h⟩ := zok_g h
  exact hret _ _ _ dX4_init_26 h g7
def bX1_init (n0 : Nat) (a0 : Nat) (μ : zMem) : Option (Unit × zMem) :=
  zgd (ygA μ n0 3 7 (25 : Int32) = true) (
  zgd (a0 < yn (yk μ) ∧ (yn μ) = a0 + 1) (
  zgd (ygA (zst (yk μ) a0 0 1) n0 3 7 (25 : Int32) = true) (
  zgd (a0 < yn (yk (zst (yk μ) a0 0 1)) ∧ (yn (zst (yk μ) a0 0 1)) = a0 + 2) (
  zgd (ygA (zst (yk (zst (yk μ) a0 0 1)) a0 1 1) n0 3 7 (25 : Int32) = true) (
  zgd (a0 < yn (yk (zst (yk (zst (yk μ) a0 0 1)) a0 1 1)) ∧ (yn (zst (yk (zst (yk μ) a0 0 1)) a0 1 1)) = a0 + 3) (
  zgd (a0 < yn (zst (yk (zst (yk (zst (yk μ) a0 0 1)) a0 1 1)) a0 2 1)) (
  zgd (yn (zst (zst (yk (zst (yk (zst (yk μ) a0 0 1)) a0 1 1)) a0 2 1) a0 3 (0 : Int32)) ≤ n0 + 3) (
  some ((), (zst (zst (yk (zst (yk (zst (yk μ) a0 0 1)) a0 1 1)) a0 2 1) a0 3 (0 : Int32)))))))))))
set_option maxRecDepth 100000 in
set_option maxHeartbeats 4000000 in
theorem uX1_init (g : zG) {a0 : Nat} {μ : zMem} {Q : Unit → zMem → Prop} (ha0 : zkd a0 = 1) (h : zok (bX1_init (yn μ) a0 μ) Q) : yTv g yX1_init cX1_init 1 1 3 [.ref (zad g a0)] μ Q := by
  refine yTv_of RX1 (by decide) rfl (Nat.le_of_ble_eq_true rfl) ?_
  intro κ hin X hret
  unfold bX1_init at h
  refine yi_aload_n (pc' := 1) X dX1_init_0 rfl rfl 0 rfl ?_
  refine yi_obj (pc' := 4) X zo_X1_3 (Nat.le_of_ble_eq_true rfl) (by decide) dX1_init_1 rfl ?_
  refine yi_aload_n (pc' := 5) X dX1_init_4 rfl rfl 0 rfl ?_
  refine yi_bipush (pc' := 7) (v := (25 : Int32)) X dX1_init_5 rfl rfl ?_
  obtain ⟨g1, h⟩ := zok_g h
  refine yi_newi (pc' := 9) X zarr_int (ygA_ok g1) dX1_init_7 rfl ?_
  have f2 : zR (yn μ) 7 (zln (yn μ)) := ⟨(ygA_ok g1).2.1, rfl⟩
  obtain ⟨g3, h⟩ := zok_g h
  refine yi_putr (pc' := 12) X zx_X1_9 hin rfl (by decide) ha0 g3 dX1_init_9 rfl ?_
  refine yi_aload_n (pc' := 13) X dX1_init_12 rfl rfl 0 rfl ?_
  refine yi_bipush (pc' := 15) (v := (25 : Int32)) X dX1_init_13 rfl rfl ?_
  obtain ⟨g4, h⟩ := zok_g h
  refine yi_newi (pc' := 17) X zarr_int (ygA_ok g4) dX1_init_15 rfl ?_
  have f5 : zR (yn (zst (yk μ) a0 0 1)) 7 (zln (yn (zst (yk μ) a0 0 1))) := ⟨(ygA_ok g4).2.1, rfl⟩
  obtain ⟨g6, h⟩ := zok_g h
  refine yi_putr (pc' := 20) X zx_X1_15 hin rfl (by decide) ha0 g6 dX1_init_17 rfl ?_
  refine yi_aload_n (pc' := 21) X dX1_init_20 rfl rfl 0 rfl ?_
  refine yi_bipush (pc' := 23) (v := (25 : Int32)) X dX1_init_21 rfl rfl ?_
  obtain ⟨g7, h⟩ := zok_g h
  refine yi_newi (pc' := 25) X zarr_int (ygA_ok g7) dX1_init_23 rfl ?_
  have f8 : zR (yn (zst (yk (zst (yk μ) a0 0 1)) a0 1 1)) 7 (zln (yn (zst (yk (zst (yk μ) a0 0 1)) a0 1 1))) := ⟨(ygA_ok g7).2.1, rfl⟩
  obtain ⟨g9, h⟩ := zok_g h
  refine yi_putr (pc' := 28) X zx_X1_18 hin rfl (by decide) ha0 g9 dX1_init_25 rfl ?_
  refine yi_aload_n (pc' := 29) X dX1_init_28 rfl rfl 0 rfl ?_
  refine yi_iconst (pc' := 30) (v := (0 : Int32)) X dX1_init_29 rfl rfl ?_
  obtain ⟨g10, h⟩ := zok_g h
  refine yi_puti (pc' := 33) X zf_X1_21 zw_1_3 rfl rfl rfl (by decide) ha0 g10 dX1_init_30 rfl ?_
  obtain ⟨g11, h⟩ := zok_g h
  exact hret _ _ _ dX1_init_33 h g11
def bX2_init (n0 : Nat) (a0 : Nat) (μ : zMem) : Option (Unit × zMem) :=
  zgd (a0 < yn μ) (
  zgd (a0 < yn (zst μ a0 0 (0 : Int32))) (
  zgd (ygA (zst (zst μ a0 0 (0 : Int32)) a0 1 (0 : Int32)) n0 1 7 (40 : Int32) = true) (
  zgd (a0 < yn (yk (zst (zst μ a0 0 (0 : Int32)) a0 1 (0 : Int32))) ∧ (yn (zst (zst μ a0 0 (0 : Int32)) a0 1 (0 : Int32))) = a0 + 1) (
  zgd (yn (zst (yk (zst (zst μ a0 0 (0 : Int32)) a0 1 (0 : Int32))) a0 2 1) ≤ n0 + 1) (
  some ((), (zst (yk (zst (zst μ a0 0 (0 : Int32)) a0 1 (0 : Int32))) a0 2 1)))))))
set_option maxRecDepth 100000 in
set_option maxHeartbeats 4000000 in
theorem uX2_init (g : zG) {a0 : Nat} {μ : zMem} {Q : Unit → zMem → Prop} (ha0 : zkd a0 = 2) (h : zok (bX2_init (yn μ) a0 μ) Q) : yTv g yX2_init cX2_init 1 1 1 [.ref (zad g a0)] μ Q := by
  refine yTv_of RX2 (by decide) rfl (Nat.le_of_ble_eq_true rfl) ?_
  intro κ hin X hret
  unfold bX2_init at h
  refine yi_aload_n (pc' := 1) X dX2_init_0 rfl rfl 0 rfl ?_
  refine yi_obj (pc' := 4) X zo_X2_3 (Nat.le_of_ble_eq_true rfl) (by decide) dX2_init_1 rfl ?_
  refine yi_aload_n (pc' := 5) X dX2_init_4 rfl rfl 0 rfl ?_
  refine yi_iconst (pc' := 6) (v := (0 : Int32)) X dX2_init_5 rfl rfl ?_
  obtain ⟨g1, h⟩ := zok_g h
  refine yi_puti (pc' := 9) X zf_X2_9 zw_2_0 rfl rfl rfl (by decide) ha0 g1 dX2_init_6 rfl ?_
  refine yi_aload_n (pc' := 10) X dX2_init_9 rfl rfl 0 rfl ?_
  refine yi_iconst (pc' := 11) (v := (0 : Int32)) X dX2_init_10 rfl rfl ?_
  obtain ⟨g2, h⟩ := zok_g h
  refine yi_puti (pc' := 14) X zf_X2_15 zw_2_1 rfl rfl rfl (by decide) ha0 g2 dX2_init_11 rfl ?_
  refine yi_aload_n (pc' := 15) X dX2_init_14 rfl rfl 0 rfl ?_
  refine yi_bipush (pc' := 17) (v := (40 : Int32)) X dX2_init_15 rfl rfl ?_
  obtain ⟨g3, h⟩ := zok_g h
  refine yi_newi (pc' := 19) X zarr_int (ygA_ok g3) dX2_init_17 rfl ?_
  have f4 : zR (yn (zst (zst μ a0 0 (0 : Int32)) a0 1 (0 : Int32))) 7 (zln (yn (zst (zst μ a0 0 (0 : Int32)) a0 1 (0 : Int32)))) := ⟨(ygA_ok g3).2.1, rfl⟩
  obtain ⟨g5, h⟩ := zok_g h
  refine yi_putr (pc' := 22) X zx_X2_18 hin rfl (by decide) ha0 g5 dX2_init_19 rfl ?_
  obtain ⟨g6, h⟩ := zok_g h
  exact hret _ _ _ dX2_init_22 h g6
def bX3_init (n0 : Nat) (a0 : Nat) (μ : zMem) : Option (Unit × zMem) :=
  zgd (ygA μ n0 1 7 (120 : Int32) = true) (
  zgd (a0 < yn (yk μ) ∧ (yn μ) = a0 + 1) (
  zgd (a0 < yn (zst (yk μ) a0 0 1)) (
  zgd (a0 < yn (zst (zst (yk μ) a0 0 1) a0 1 (0 : Int32))) (
  zgd (a0 < yn (zst (zst (zst (yk μ) a0 0 1) a0 1 (0 : Int32)) a0 2 (0 : Int32))) (
  zgd (a0 < yn (zst (zst (zst (zst (yk μ) a0 0 1) a0 1 (0 : Int32)) a0 2 (0 : Int32)) a0 3 (0 : Int32))) (
  zgd (a0 < yn (zst (zst (zst (zst (zst (yk μ) a0 0 1) a0 1 (0 : Int32)) a0 2 (0 : Int32)) a0 3 (0 : Int32)) a0 4 (0 : Int32))) (
  zgd (yn (zst (zst (zst (zst (zst (zst (yk μ) a0 0 1) a0 1 (0 : Int32)) a0 2 (0 : Int32)) a0 3 (0 : Int32)) a0 4 (0 : Int32)) a0 5 (0 : Int32)) ≤ n0 + 1) (
  some ((), (zst (zst (zst (zst (zst (zst (yk μ) a0 0 1) a0 1 (0 : Int32)) a0 2 (0 : Int32)) a0 3 (0 : Int32)) a0 4 (0 : Int32)) a0 5 (0 : Int32)))))))))))
set_option maxRecDepth 100000 in
set_option maxHeartbeats 4000000 in
theorem uX3_init (g : zG) {a0 : Nat} {μ : zMem} {Q : Unit → zMem → Prop} (ha0 : zkd a0 = 3) (h : zok (bX3_init (yn μ) a0 μ) Q) : yTv g yX3_init cX3_init 1 1 1 [.ref (zad g a0)] μ Q := by
  refine yTv_of RX3 (by decide) rfl (Nat.le_of_ble_eq_true rfl) ?_
  intro κ hin X hret
  unfold bX3_init at h
  refine yi_aload_n (pc' := 1) X dX3_init_0 rfl rfl 0 rfl ?_
  refine yi_obj (pc' := 4) X zo_X3_3 (Nat.le_of_ble_eq_true rfl) (by decide) dX3_init_1 rfl ?_
  refine yi_aload_n (pc' := 5) X dX3_init_4 rfl rfl 0 rfl ?_
  refine yi_bipush (pc' := 7) (v := (120 : Int32)) X dX3_init_5 rfl rfl ?_
  obtain ⟨g1, h⟩ := zok_g h
  refine yi_newi (pc' := 9) X zarr_int (ygA_ok g1) dX3_init_7 rfl ?_
  have f2 : zR (yn μ) 7 (zln (yn μ)) := ⟨(ygA_ok g1).2.1, rfl⟩
  obtain ⟨g3, h⟩ := zok_g h
  refine yi_putr (pc' := 12) X zx_X3_9 hin rfl (by decide) ha0 g3 dX3_init_9 rfl ?_
  refine yi_aload_n (pc' := 13) X dX3_init_12 rfl rfl 0 rfl ?_
  refine yi_iconst (pc' := 14) (v := (0 : Int32)) X dX3_init_13 rfl rfl ?_
  obtain ⟨g4, h⟩ := zok_g h
  refine yi_puti (pc' := 17) X zf_X3_15 zw_3_1 rfl rfl rfl (by decide) ha0 g4 dX3_init_14 rfl ?_
  refine yi_aload_n (pc' := 18) X dX3_init_17 rfl rfl 0 rfl ?_
  refine yi_iconst (pc' := 19) (v := (0 : Int32)) X dX3_init_18 rfl rfl ?_
  obtain ⟨g5, h⟩ := zok_g h
  refine yi_puti (pc' := 22) X zf_X3_19 zw_3_2 rfl rfl rfl (by decide) ha0 g5 dX3_init_19 rfl ?_
  refine yi_aload_n (pc' := 23) X dX3_init_22 rfl rfl 0 rfl ?_
  refine yi_iconst (pc' := 24) (v := (0 : Int32)) X dX3_init_23 rfl rfl ?_
  obtain ⟨g6, h⟩ := zok_g h
  refine yi_puti (pc' := 27) X zf_X3_22 zw_3_3 rfl rfl rfl (by decide) ha0 g6 dX3_init_24 rfl ?_
  refine yi_aload_n (pc' := 28) X dX3_init_27 rfl rfl 0 rfl ?_
  refine yi_iconst (pc' := 29) (v := (0 : Int32)) X dX3_init_28 rfl rfl ?_
  obtain ⟨g7, h⟩ := zok_g h
  refine yi_puti (pc' := 32) X zf_X3_25 zw_3_4 rfl rfl rfl (by decide) ha0 g7 dX3_init_29 rfl ?_
  refine yi_aload_n (pc' := 33) X dX3_init_32 rfl rfl 0 rfl ?_
  refine yi_iconst (pc' := 34) (v := (0 : Int32)) X dX3_init_33 rfl rfl ?_
  obtain ⟨g8, h⟩ := zok_g h
  refine yi_puti (pc' := 37) X zf_X3_28 zw_3_5 rfl rfl rfl (by decide) ha0 g8 dX3_init_34 rfl ?_
  obtain ⟨g9, h⟩ := zok_g h
  exact hret _ _ _ dX3_init_37 h g9
def bX0_init_68 (n0 : Nat) : Nat → Nat → Int32 → zMem → Option (Unit × zMem)
  | 0, _, _, _ => none
  | n + 1, a0, a1, μ =>
    if (6 : Int32) ≤ a1 then
      zgd (yn μ ≤ n0 + 15) (
      some ((), μ))
    else
      zgd (a0 < yn μ ∧ ¬ μ a0 2 = 0) (
      zgd (ygO μ n0 15 4 = true) (
      zgd (yn (yk μ) + 1 ≤ n0 + 15) (
      zbd (bX4_init (yn (yk μ)) (yn μ) (yk μ)) fun _ m30 =>
      zgd (yn m30 = yn (yk μ) + 1) (
      zgd ((a0 + 3) < yn m30 ∧ (yn μ) < yn m30 ∧ (yn μ) = (a0 + 3) + 1 + 2 * (a1).toNatClampNeg) (
      zgd (zib a1 6) (
      bX0_init_68 n0 n a0 (a1 + (1 : Int32)) (zst m30 (a0 + 3) (a1).toNatClampNeg 1)))))))
set_option maxRecDepth 100000 in
theorem vX0_init_68 {g : zG} {κ : zK} {n0 : Nat} (X : yC g κ RX0 cX0_init 2 2 15 n0) {Q : Unit → zMem → Prop} (hin : ∃ κ1 : Method, κ1.name = yX0_init.name ∧ κ.2.1.2.2.1 = κ1) (hret : ∀ pc lv μ', decode cX0_init pc = .ok (.return_, 1) → Q () μ' → yn μ' ≤ n0 + 15 → yV g κ n0 pc lv [] μ') : ∀ (n : Nat) (a0 : Nat) (a1 : Int32) (μ : zMem) (ha0 : zkd a0 = 0), zok (bX0_init_68 n0 n a0 a1 μ) Q → yV g κ n0 68 [(0, .ref (zad g a0)), (1, .int a1)] [] μ := by
  intro n
  induction n with
  | zero =>
    intro a0 a1 μ ha0 h
    exact h.elim
  | succ n ih =>
    intro a0 a1 μ ha0 h
    rw [bX0_init_68] at h
    refine yi_iload_n (pc' := 69) X dX0_init_68 rfl rfl 1 rfl ?_
    refine yi_bipush (pc' := 71) (v := (6 : Int32)) X dX0_init_69 rfl rfl ?_
    refine yi_icmp_ge (pc' := 74) (tgt := 93) X dX0_init_71 rfl rfl (fun c => ?_) (fun c => ?_)
    · replace h := zok_t h c
      obtain ⟨g24, h⟩ := zok_g h
      exact hret _ _ _ dX0_init_93 h g24
    · replace h := zok_f h c
      refine yi_aload_n (pc' := 75) X dX0_init_74 rfl rfl 0 rfl ?_
      obtain ⟨g25, h⟩ := zok_g h
      refine yi_getr (pc' := 78) X zf_X0_20 rfl (by decide) ha0 g25 dX0_init_75 rfl ?_
      have f26 := zr_0_2 ha0
      refine yi_iload_n (pc' := 79) X dX0_init_78 rfl rfl 1 rfl ?_
      obtain ⟨g27, h⟩ := zok_g h
      refine yi_new (pc' := 82) X zn_X0_18 (by decide) (ygO_ok g27) dX0_init_79 rfl ?_
      have f28 := (ygO_ok g27).2.1
      refine yi_dup (pc' := 83) X dX0_init_82 rfl rfl ?_
      obtain ⟨g29, h⟩ := zok_g h
      refine yi_callI (pc' := 86) X zl_X0_43 [] rfl rfl (by decide) (Nat.le_of_ble_eq_true rfl) g29 dX0_init_83 rfl ⟨uX4_init _ f28 (zok_bd h (fun _ m30 h => ?_)), trivial⟩
      obtain ⟨g31, h⟩ := zok_g h
      refine ⟨g31, ?_⟩
      obtain ⟨g32, h⟩ := zok_g h
      obtain ⟨g33, h⟩ := zok_g h
      refine yi_aastT (pc' := 87) X f26.1 f28 g32 (by rw [f26.2]; exact g33) dX0_init_86 rfl ?_
      refine yi_iinc (pc' := 90) (v := (a1 + (1 : Int32))) X dX0_init_87 rfl 1 rfl rfl (by decide) [(1, .int (a1 + (1 : Int32))), (0, .ref (zad g a0))] rfl ?_
      refine yi_goto (pc' := 68) X dX0_init_90 rfl ?_
      exact yi_sub X [1, 0] _ rfl (ih a0 (a1 + (1 : Int32)) ((zst m30 (a0 + 3) (a1).toNatClampNeg 1)) ha0 h)
def bX0_init (n0 : Nat) (a0 : Nat) (μ : zMem) : Option (Unit × zMem) :=
  zgd (ygA μ n0 15 7 (25 : Int32) = true) (
  zgd (a0 < yn (yk μ) ∧ (yn μ) = a0 + 1) (
  zgd (ygA (zst (yk μ) a0 0 1) n0 15 7 (10 : Int32) = true) (
  zgd (a0 < yn (yk (zst (yk μ) a0 0 1)) ∧ (yn (zst (yk μ) a0 0 1)) = a0 + 2) (
  zgd (ygA (zst (yk (zst (yk μ) a0 0 1)) a0 1 1) n0 15 9 (6 : Int32) = true) (
  zgd (a0 < yn (yk (zst (yk (zst (yk μ) a0 0 1)) a0 1 1)) ∧ (yn (zst (yk (zst (yk μ) a0 0 1)) a0 1 1)) = a0 + 3) (
  zgd (a0 < yn (zst (yk (zst (yk (zst (yk μ) a0 0 1)) a0 1 1)) a0 2 1)) (
  zgd (a0 < yn (zst (zst (yk (zst (yk (zst (yk μ) a0 0 1)) a0 1 1)) a0 2 1) a0 3 (0 : Int32))) (
  zgd (a0 < yn (zst (zst (zst (yk (zst (yk (zst (yk μ) a0 0 1)) a0 1 1)) a0 2 1) a0 3 (0 : Int32)) a0 4 (0 : Int32))) (
  zgd (a0 < yn (zst (zst (zst (zst (yk (zst (yk (zst (yk μ) a0 0 1)) a0 1 1)) a0 2 1) a0 3 (0 : Int32)) a0 4 (0 : Int32)) a0 5 (0 : Int32))) (
  zgd (a0 < yn (zst (zst (zst (zst (zst (yk (zst (yk (zst (yk μ) a0 0 1)) a0 1 1)) a0 2 1) a0 3 (0 : Int32)) a0 4 (0 : Int32)) a0 5 (0 : Int32)) a0 6 (1 : Int32)) ∧ ¬ (zst (zst (zst (zst (zst (yk (zst (yk (zst (yk μ) a0 0 1)) a0 1 1)) a0 2 1) a0 3 (0 : Int32)) a0 4 (0 : Int32)) a0 5 (0 : Int32)) a0 6 (1 : Int32)) a0 0 = 0) (
  zgd (yn (zst (zst (zst (zst (zst (yk (zst (yk (zst (yk μ) a0 0 1)) a0 1 1)) a0 2 1) a0 3 (0 : Int32)) a0 4 (0 : Int32)) a0 5 (0 : Int32)) a0 6 (1 : Int32)) + 0 ≤ n0 + 15) (
  zbd (bJ7_fill_53178 (yn (zst (zst (zst (zst (zst (yk (zst (yk (zst (yk μ) a0 0 1)) a0 1 1)) a0 2 1) a0 3 (0 : Int32)) a0 4 (0 : Int32)) a0 5 (0 : Int32)) a0 6 (1 : Int32))) (a0 + 1) (50 : Int32) (zst (zst (zst (zst (zst (yk (zst (yk (zst (yk μ) a0 0 1)) a0 1 1)) a0 2 1) a0 3 (0 : Int32)) a0 4 (0 : Int32)) a0 5 (0 : Int32)) a0 6 (1 : Int32))) fun _ m17 =>
  zgd (yn m17 = yn (zst (zst (zst (zst (zst (yk (zst (yk (zst (yk μ) a0 0 1)) a0 1 1)) a0 2 1) a0 3 (0 : Int32)) a0 4 (0 : Int32)) a0 5 (0 : Int32)) a0 6 (1 : Int32)) + 0) (
  zgd (a0 < yn m17 ∧ ¬ m17 a0 1 = 0) (
  zgd (yn m17 + 0 ≤ n0 + 15) (
  zbd (bJ7_fill_53178 (yn m17) (a0 + 2) (-1 : Int32) m17) fun _ m22 =>
  zgd (yn m22 = yn m17 + 0) (
  bX0_init_68 n0 200 a0 (0 : Int32) m22))))))))))))))))
set_option maxRecDepth 100000 in
set_option maxHeartbeats 4000000 in
theorem uX0_init (g : zG) {a0 : Nat} {μ : zMem} {Q : Unit → zMem → Prop} (ha0 : zkd a0 = 0) (h : zok (bX0_init (yn μ) a0 μ) Q) : yTv g yX0_init cX0_init 2 2 15 [.ref (zad g a0)] μ Q := by
  refine yTv_of RX0 (by decide) rfl (Nat.le_of_ble_eq_true rfl) ?_
  intro κ hin X hret
  unfold bX0_init at h
  refine yi_aload_n (pc' := 1) X dX0_init_0 rfl rfl 0 rfl ?_
  refine yi_obj (pc' := 4) X zo_X0_3 (Nat.le_of_ble_eq_true rfl) (by decide) dX0_init_1 rfl ?_
  refine yi_aload_n (pc' := 5) X dX0_init_4 rfl rfl 0 rfl ?_
  refine yi_bipush (pc' := 7) (v := (25 : Int32)) X dX0_init_5 rfl rfl ?_
  obtain ⟨g1, h⟩ := zok_g h
  refine yi_newi (pc' := 9) X zarr_int (ygA_ok g1) dX0_init_7 rfl ?_
  have f2 : zR (yn μ) 7 (zln (yn μ)) := ⟨(ygA_ok g1).2.1, rfl⟩
  obtain ⟨g3, h⟩ := zok_g h
  refine yi_putr (pc' := 12) X zx_X0_9 hin rfl (by decide) ha0 g3 dX0_init_9 rfl ?_
  refine yi_aload_n (pc' := 13) X dX0_init_12 rfl rfl 0 rfl ?_
  refine yi_bipush (pc' := 15) (v := (10 : Int32)) X dX0_init_13 rfl rfl ?_
  obtain ⟨g4, h⟩ := zok_g h
  refine yi_newi (pc' := 17) X zarr_int (ygA_ok g4) dX0_init_15 rfl ?_
  have f5 : zR (yn (zst (yk μ) a0 0 1)) 7 (zln (yn (zst (yk μ) a0 0 1))) := ⟨(ygA_ok g4).2.1, rfl⟩
  obtain ⟨g6, h⟩ := zok_g h
  refine yi_putr (pc' := 20) X zx_X0_15 hin rfl (by decide) ha0 g6 dX0_init_17 rfl ?_
  refine yi_aload_n (pc' := 21) X dX0_init_20 rfl rfl 0 rfl ?_
  refine yi_bipush (pc' := 23) (v := (6 : Int32)) X dX0_init_21 rfl rfl ?_
  obtain ⟨g7, h⟩ := zok_g h
  refine yi_newqT (pc' := 26) X zcl_X0_18 (ygA_ok g7) dX0_init_23 rfl ?_
  have f8 : zR (yn (zst (yk (zst (yk μ) a0 0 1)) a0 1 1)) 9 (zln (yn (zst (yk (zst (yk μ) a0 0 1)) a0 1 1))) := ⟨(ygA_ok g7).2.1, rfl⟩
  obtain ⟨g9, h⟩ := zok_g h
  refine yi_putr (pc' := 29) X zx_X0_20 hin rfl (by decide) ha0 g9 dX0_init_26 rfl ?_
  refine yi_aload_n (pc' := 30) X dX0_init_29 rfl rfl 0 rfl ?_
  refine yi_iconst (pc' := 31) (v := (0 : Int32)) X dX0_init_30 rfl rfl ?_
  obtain ⟨g10, h⟩ := zok_g h
  refine yi_puti (pc' := 34) X zf_X0_24 zw_0_3 rfl rfl rfl (by decide) ha0 g10 dX0_init_31 rfl ?_
  refine yi_aload_n (pc' := 35) X dX0_init_34 rfl rfl 0 rfl ?_
  refine yi_iconst (pc' := 36) (v := (0 : Int32)) X dX0_init_35 rfl rfl ?_
  obtain ⟨g11, h⟩ := zok_g h
  refine yi_puti (pc' := 39) X zf_X0_28 zw_0_4 rfl rfl rfl (by decide) ha0 g11 dX0_init_36 rfl ?_
  refine yi_aload_n (pc' := 40) X dX0_init_39 rfl rfl 0 rfl ?_
  refine yi_iconst (pc' := 41) (v := (0 : Int32)) X dX0_init_40 rfl rfl ?_
  obtain ⟨g12, h⟩ := zok_g h
  refine yi_puti (pc' := 44) X zf_X0_31 zw_0_5 rfl rfl rfl (by decide) ha0 g12 dX0_init_41 rfl ?_
  refine yi_aload_n (pc' := 45) X dX0_init_44 rfl rfl 0 rfl ?_
  refine yi_iconst (pc' := 46) (v := (1 : Int32)) X dX0_init_45 rfl rfl ?_
  obtain ⟨g13, h⟩ := zok_g h
  refine yi_puti (pc' := 49) X zf_X0_34 zw_0_6 rfl rfl rfl (by decide) ha0 g13 dX0_init_46 rfl ?_
  refine yi_aload_n (pc' := 50) X dX0_init_49 rfl rfl 0 rfl ?_
  obtain ⟨g14, h⟩ := zok_g h
  refine yi_getr (pc' := 53) X zf_X0_9 rfl (by decide) ha0 g14 dX0_init_50 rfl ?_
  have f15 := zr_0_0 ha0
  refine yi_bipush (pc' := 55) (v := (50 : Int32)) X dX0_init_53 rfl rfl ?_
  obtain ⟨g16, h⟩ := zok_g h
  refine yi_callS (pc' := 58) X zl_X0_37 [.ref (zad g (a0 + 1)), .int (50 : Int32)] rfl rfl (by decide) (Nat.le_of_ble_eq_true rfl) g16 dX0_init_55 rfl ⟨uJ7_fill_53178 _ f15.1 (zok_bd h (fun _ m17 h => ?_)), trivial⟩
  obtain ⟨g18, h⟩ := zok_g h
  refine ⟨g18, ?_⟩
  refine yi_aload_n (pc' := 59) X dX0_init_58 rfl rfl 0 rfl ?_
  obtain ⟨g19, h⟩ := zok_g h
  refine yi_getr (pc' := 62) X zf_X0_15 rfl (by decide) ha0 g19 dX0_init_59 rfl ?_
  have f20 := zr_0_1 ha0
  refine yi_iconst (pc' := 63) (v := (-1 : Int32)) X dX0_init_62 rfl rfl ?_
  obtain ⟨g21, h⟩ := zok_g h
  refine yi_callS (pc' := 66) X zl_X0_37 [.ref (zad g (a0 + 2)), .int (-1 : Int32)] rfl rfl (by decide) (Nat.le_of_ble_eq_true rfl) g21 dX0_init_63 rfl ⟨uJ7_fill_53178 _ f20.1 (zok_bd h (fun _ m22 h => ?_)), trivial⟩
  obtain ⟨g23, h⟩ := zok_g h
  refine ⟨g23, ?_⟩
  refine yi_iconst (pc' := 67) (v := (0 : Int32)) X dX0_init_66 rfl rfl ?_
  refine yi_istore_n (pc' := 68) X dX0_init_67 rfl rfl (by decide) [(1, .int (0 : Int32)), (0, .ref (zad g a0))] rfl ?_
  exact yi_sub X [1, 0] _ rfl (vX0_init_68 X hin hret 200 a0 (0 : Int32) (m22) ha0 h)
def bX5_init_90 (n0 : Nat) : Nat → Nat → Int32 → zMem → Option (Unit × zMem)
  | 0, _, _, _ => none
  | n + 1, a0, a1, μ =>
    if (4 : Int32) ≤ a1 then
      zgd (yn μ ≤ n0 + 65) (
      some ((), μ))
    else
      zgd (a0 < yn μ ∧ ¬ μ a0 5 = 0) (
      zgd (ygO μ n0 65 2 = true) (
      zgd (yn (yk μ) + 1 ≤ n0 + 65) (
      zbd (bX2_init (yn (yk μ)) (yn μ) (yk μ)) fun _ m47 =>
      zgd (yn m47 = yn (yk μ) + 1) (
      zgd ((a0 + 55) < yn m47 ∧ (yn μ) < yn m47 ∧ (yn μ) = (a0 + 55) + 3 + 2 * (a1).toNatClampNeg) (
      zgd (zib a1 4) (
      bX5_init_90 n0 n a0 (a1 + (1 : Int32)) (zst m47 (a0 + 55) (a1).toNatClampNeg 1)))))))
set_option maxRecDepth 100000 in
theorem vX5_init_90 {g : zG} {κ : zK} {n0 : Nat} (X : yC g κ RX5 cX5_init 2 3 65 n0) {Q : Unit → zMem → Prop} (hin : ∃ κ1 : Method, κ1.name = yX5_init.name ∧ κ.2.1.2.2.1 = κ1) (hret : ∀ pc lv μ', decode cX5_init pc = .ok (.return_, 1) → Q () μ' → yn μ' ≤ n0 + 65 → yV g κ n0 pc lv [] μ') : ∀ (n : Nat) (a0 : Nat) (a1 : Int32) (μ : zMem) (ha0 : zkd a0 = 5), zok (bX5_init_90 n0 n a0 a1 μ) Q → yV g κ n0 90 [(0, .ref (zad g a0)), (1, .int a1)] [] μ := by
  intro n
  induction n with
  | zero =>
    intro a0 a1 μ ha0 h
    exact h.elim
  | succ n ih =>
    intro a0 a1 μ ha0 h
    rw [bX5_init_90] at h
    refine yi_iload_n (pc' := 91) X dX5_init_90 rfl rfl 1 rfl ?_
    refine yi_iconst (pc' := 92) (v := (4 : Int32)) X dX5_init_91 rfl rfl ?_
    refine yi_icmp_ge (pc' := 95) (tgt := 114) X dX5_init_92 rfl rfl (fun c => ?_) (fun c => ?_)
    · replace h := zok_t h c
      obtain ⟨g41, h⟩ := zok_g h
      exact hret _ _ _ dX5_init_114 h g41
    · replace h := zok_f h c
      refine yi_aload_n (pc' := 96) X dX5_init_95 rfl rfl 0 rfl ?_
      obtain ⟨g42, h⟩ := zok_g h
      refine yi_getr (pc' := 99) X zf_X5_38 rfl (by decide) ha0 g42 dX5_init_96 rfl ?_
      have f43 := zr_5_5 ha0
      refine yi_iload_n (pc' := 100) X dX5_init_99 rfl rfl 1 rfl ?_
      obtain ⟨g44, h⟩ := zok_g h
      refine yi_new (pc' := 103) X zn_X5_36 (by decide) (ygO_ok g44) dX5_init_100 rfl ?_
      have f45 := (ygO_ok g44).2.1
      refine yi_dup (pc' := 104) X dX5_init_103 rfl rfl ?_
      obtain ⟨g46, h⟩ := zok_g h
      refine yi_callI (pc' := 107) X zl_X5_53 [] rfl rfl (by decide) (Nat.le_of_ble_eq_true rfl) g46 dX5_init_104 rfl ⟨uX2_init _ f45 (zok_bd h (fun _ m47 h => ?_)), trivial⟩
      obtain ⟨g48, h⟩ := zok_g h
      refine ⟨g48, ?_⟩
      obtain ⟨g49, h⟩ := zok_g h
      obtain ⟨g50, h⟩ := zok_g h
      refine yi_aastS (pc' := 108) X f43.1 f45 g49 (by rw [f43.2]; exact g50) dX5_init_107 rfl ?_
      refine yi_iinc (pc' := 111) (v := (a1 + (1 : Int32))) X dX5_init_108 rfl 1 rfl rfl (by decide) [(1, .int (a1 + (1 : Int32))), (0, .ref (zad g a0))] rfl ?_
      refine yi_goto (pc' := 90) X dX5_init_111 rfl ?_
      exact yi_sub X [1, 0] _ rfl (ih a0 (a1 + (1 : Int32)) ((zst m47 (a0 + 55) (a1).toNatClampNeg 1)) ha0 h)
def bX5_init (n0 : Nat) (a0 : Nat) (μ : zMem) : Option (Unit × zMem) :=
  zgd (ygO μ n0 65 0 = true) (
  zgd (yn (yk μ) + 15 ≤ n0 + 65) (
  zbd (bX0_init (yn (yk μ)) (yn μ) (yk μ)) fun _ m4 =>
  zgd (yn m4 = yn (yk μ) + 15) (
  zgd (a0 < yn m4 ∧ (yn μ) = a0 + 1) (
  zgd (ygO (zst m4 a0 0 1) n0 65 0 = true) (
  zgd (yn (yk (zst m4 a0 0 1)) + 15 ≤ n0 + 65) (
  zbd (bX0_init (yn (yk (zst m4 a0 0 1))) (yn (zst m4 a0 0 1)) (yk (zst m4 a0 0 1))) fun _ m10 =>
  zgd (yn m10 = yn (yk (zst m4 a0 0 1)) + 15) (
  zgd (a0 < yn m10 ∧ (yn (zst m4 a0 0 1)) = a0 + 17) (
  zgd (ygO (zst m10 a0 1 1) n0 65 0 = true) (
  zgd (yn (yk (zst m10 a0 1 1)) + 15 ≤ n0 + 65) (
  zbd (bX0_init (yn (yk (zst m10 a0 1 1))) (yn (zst m10 a0 1 1)) (yk (zst m10 a0 1 1))) fun _ m16 =>
  zgd (yn m16 = yn (yk (zst m10 a0 1 1)) + 15) (
  zgd (a0 < yn m16 ∧ (yn (zst m10 a0 1 1)) = a0 + 33) (
  zgd (ygO (zst m16 a0 2 1) n0 65 1 = true) (
  zgd (yn (yk (zst m16 a0 2 1)) + 3 ≤ n0 + 65) (
  zbd (bX1_init (yn (yk (zst m16 a0 2 1))) (yn (zst m16 a0 2 1)) (yk (zst m16 a0 2 1))) fun _ m22 =>
  zgd (yn m22 = yn (yk (zst m16 a0 2 1)) + 3) (
  zgd (a0 < yn m22 ∧ (yn (zst m16 a0 2 1)) = a0 + 49) (
  zgd (ygO (zst m22 a0 3 1) n0 65 3 = true) (
  zgd (yn (yk (zst m22 a0 3 1)) + 1 ≤ n0 + 65) (
  zbd (bX3_init (yn (yk (zst m22 a0 3 1))) (yn (zst m22 a0 3 1)) (yk (zst m22 a0 3 1))) fun _ m28 =>
  zgd (yn m28 = yn (yk (zst m22 a0 3 1)) + 1) (
  zgd (a0 < yn m28 ∧ (yn (zst m22 a0 3 1)) = a0 + 53) (
  zgd (ygA (zst m28 a0 4 1) n0 65 8 (4 : Int32) = true) (
  zgd (a0 < yn (yk (zst m28 a0 4 1)) ∧ (yn (zst m28 a0 4 1)) = a0 + 55) (
  zgd (ygA (zst (yk (zst m28 a0 4 1)) a0 5 1) n0 65 7 (7 : Int32) = true) (
  zgd (a0 < yn (yk (zst (yk (zst m28 a0 4 1)) a0 5 1)) ∧ (yn (zst (yk (zst m28 a0 4 1)) a0 5 1)) = a0 + 56) (
  zgd (ygA (zst (yk (zst (yk (zst m28 a0 4 1)) a0 5 1)) a0 6 1) n0 65 7 (25 : Int32) = true) (
  zgd (a0 < yn (yk (zst (yk (zst (yk (zst m28 a0 4 1)) a0 5 1)) a0 6 1)) ∧ (yn (zst (yk (zst (yk (zst m28 a0 4 1)) a0 5 1)) a0 6 1)) = a0 + 57) (
  zgd (a0 < yn (zst (yk (zst (yk (zst (yk (zst m28 a0 4 1)) a0 5 1)) a0 6 1)) a0 7 1)) (
  bX5_init_90 n0 200 a0 (0 : Int32) (zst (zst (yk (zst (yk (zst (yk (zst m28 a0 4 1)) a0 5 1)) a0 6 1)) a0 7 1) a0 8 (0 : Int32)))))))))))))))))))))))))))))
set_option maxRecDepth 100000 in
set_option maxHeartbeats 4000000 in
theorem uX5_init (g : zG) {a0 : Nat} {μ : zMem} {Q : Unit → zMem → Prop} (ha0 : zkd a0 = 5) (h : zok (bX5_init (yn μ) a0 μ) Q) : yTv g yX5_init cX5_init 2 3 65 [.ref (zad g a0)] μ Q := by
  refine yTv_of RX5 (by decide) rfl (Nat.le_of_ble_eq_true rfl) ?_
  intro κ hin X hret
  unfold bX5_init at h
  refine yi_aload_n (pc' := 1) X dX5_init_0 rfl rfl 0 rfl ?_
  refine yi_obj (pc' := 4) X zo_X5_1 (Nat.le_of_ble_eq_true rfl) (by decide) dX5_init_1 rfl ?_
  refine yi_aload_n (pc' := 5) X dX5_init_4 rfl rfl 0 rfl ?_
  obtain ⟨g1, h⟩ := zok_g h
  refine yi_new (pc' := 8) X zn_X5_7 (by decide) (ygO_ok g1) dX5_init_5 rfl ?_
  have f2 := (ygO_ok g1).2.1
  refine yi_dup (pc' := 9) X dX5_init_8 rfl rfl ?_
  obtain ⟨g3, h⟩ := zok_g h
  refine yi_callI (pc' := 12) X zl_X5_9 [] rfl rfl (by decide) (Nat.le_of_ble_eq_true rfl) g3 dX5_init_9 rfl ⟨uX0_init _ f2 (zok_bd h (fun _ m4 h => ?_)), trivial⟩
  obtain ⟨g5, h⟩ := zok_g h
  refine ⟨g5, ?_⟩
  obtain ⟨g6, h⟩ := zok_g h
  refine yi_putr (pc' := 15) X zx_X5_10 hin rfl (by decide) ha0 g6 dX5_init_12 rfl ?_
  refine yi_aload_n (pc' := 16) X dX5_init_15 rfl rfl 0 rfl ?_
  obtain ⟨g7, h⟩ := zok_g h
  refine yi_new (pc' := 19) X zn_X5_7 (by decide) (ygO_ok g7) dX5_init_16 rfl ?_
  have f8 := (ygO_ok g7).2.1
  refine yi_dup (pc' := 20) X dX5_init_19 rfl rfl ?_
  obtain ⟨g9, h⟩ := zok_g h
  refine yi_callI (pc' := 23) X zl_X5_9 [] rfl rfl (by decide) (Nat.le_of_ble_eq_true rfl) g9 dX5_init_20 rfl ⟨uX0_init _ f8 (zok_bd h (fun _ m10 h => ?_)), trivial⟩
  obtain ⟨g11, h⟩ := zok_g h
  refine ⟨g11, ?_⟩
  obtain ⟨g12, h⟩ := zok_g h
  refine yi_putr (pc' := 26) X zx_X5_16 hin rfl (by decide) ha0 g12 dX5_init_23 rfl ?_
  refine yi_aload_n (pc' := 27) X dX5_init_26 rfl rfl 0 rfl ?_
  obtain ⟨g13, h⟩ := zok_g h
  refine yi_new (pc' := 30) X zn_X5_7 (by decide) (ygO_ok g13) dX5_init_27 rfl ?_
  have f14 := (ygO_ok g13).2.1
  refine yi_dup (pc' := 31) X dX5_init_30 rfl rfl ?_
  obtain ⟨g15, h⟩ := zok_g h
  refine yi_callI (pc' := 34) X zl_X5_9 [] rfl rfl (by decide) (Nat.le_of_ble_eq_true rfl) g15 dX5_init_31 rfl ⟨uX0_init _ f14 (zok_bd h (fun _ m16 h => ?_)), trivial⟩
  obtain ⟨g17, h⟩ := zok_g h
  refine ⟨g17, ?_⟩
  obtain ⟨g18, h⟩ := zok_g h
  refine yi_putr (pc' := 37) X zx_X5_19 hin rfl (by decide) ha0 g18 dX5_init_34 rfl ?_
  refine yi_aload_n (pc' := 38) X dX5_init_37 rfl rfl 0 rfl ?_
  obtain ⟨g19, h⟩ := zok_g h
  refine yi_new (pc' := 41) X zn_X5_22 (by decide) (ygO_ok g19) dX5_init_38 rfl ?_
  have f20 := (ygO_ok g19).2.1
  refine yi_dup (pc' := 42) X dX5_init_41 rfl rfl ?_
  obtain ⟨g21, h⟩ := zok_g h
  refine yi_callI (pc' := 45) X zl_X5_24 [] rfl rfl (by decide) (Nat.le_of_ble_eq_true rfl) g21 dX5_init_42 rfl ⟨uX1_init _ f20 (zok_bd h (fun _ m22 h => ?_)), trivial⟩
  obtain ⟨g23, h⟩ := zok_g h
  refine ⟨g23, ?_⟩
  obtain ⟨g24, h⟩ := zok_g h
  refine yi_putr (pc' := 48) X zx_X5_25 hin rfl (by decide) ha0 g24 dX5_init_45 rfl ?_
  refine yi_aload_n (pc' := 49) X dX5_init_48 rfl rfl 0 rfl ?_
  obtain ⟨g25, h⟩ := zok_g h
  refine yi_new (pc' := 52) X zn_X5_29 (by decide) (ygO_ok g25) dX5_init_49 rfl ?_
  have f26 := (ygO_ok g25).2.1
  refine yi_dup (pc' := 53) X dX5_init_52 rfl rfl ?_
  obtain ⟨g27, h⟩ := zok_g h
  refine yi_callI (pc' := 56) X zl_X5_31 [] rfl rfl (by decide) (Nat.le_of_ble_eq_true rfl) g27 dX5_init_53 rfl ⟨uX3_init _ f26 (zok_bd h (fun _ m28 h => ?_)), trivial⟩
  obtain ⟨g29, h⟩ := zok_g h
  refine ⟨g29, ?_⟩
  obtain ⟨g30, h⟩ := zok_g h
  refine yi_putr (pc' := 59) X zx_X5_32 hin rfl (by decide) ha0 g30 dX5_init_56 rfl ?_
  refine yi_aload_n (pc' := 60) X dX5_init_59 rfl rfl 0 rfl ?_
  refine yi_iconst (pc' := 61) (v := (4 : Int32)) X dX5_init_60 rfl rfl ?_
  obtain ⟨g31, h⟩ := zok_g h
  refine yi_newqS (pc' := 64) X zcl_X5_36 (ygA_ok g31) dX5_init_61 rfl ?_
  have f32 : zR (yn (zst m28 a0 4 1)) 8 (zln (yn (zst m28 a0 4 1))) := ⟨(ygA_ok g31).2.1, rfl⟩
  obtain ⟨g33, h⟩ := zok_g h
  refine yi_putr (pc' := 67) X zx_X5_38 hin rfl (by decide) ha0 g33 dX5_init_64 rfl ?_
  refine yi_aload_n (pc' := 68) X dX5_init_67 rfl rfl 0 rfl ?_
  refine yi_bipush (pc' := 70) (v := (7 : Int32)) X dX5_init_68 rfl rfl ?_
  obtain ⟨g34, h⟩ := zok_g h
  refine yi_newi (pc' := 72) X zarr_int (ygA_ok g34) dX5_init_70 rfl ?_
  have f35 : zR (yn (zst (yk (zst m28 a0 4 1)) a0 5 1)) 7 (zln (yn (zst (yk (zst m28 a0 4 1)) a0 5 1))) := ⟨(ygA_ok g34).2.1, rfl⟩
  obtain ⟨g36, h⟩ := zok_g h
  refine yi_putr (pc' := 75) X zx_X5_42 hin rfl (by decide) ha0 g36 dX5_init_72 rfl ?_
  refine yi_aload_n (pc' := 76) X dX5_init_75 rfl rfl 0 rfl ?_
  refine yi_bipush (pc' := 78) (v := (25 : Int32)) X dX5_init_76 rfl rfl ?_
  obtain ⟨g37, h⟩ := zok_g h
  refine yi_newi (pc' := 80) X zarr_int (ygA_ok g37) dX5_init_78 rfl ?_
  have f38 : zR (yn (zst (yk (zst (yk (zst m28 a0 4 1)) a0 5 1)) a0 6 1)) 7 (zln (yn (zst (yk (zst (yk (zst m28 a0 4 1)) a0 5 1)) a0 6 1))) := ⟨(ygA_ok g37).2.1, rfl⟩
  obtain ⟨g39, h⟩ := zok_g h
  refine yi_putr (pc' := 83) X zx_X5_46 hin rfl (by decide) ha0 g39 dX5_init_80 rfl ?_
  refine yi_aload_n (pc' := 84) X dX5_init_83 rfl rfl 0 rfl ?_
  refine yi_iconst (pc' := 85) (v := (0 : Int32)) X dX5_init_84 rfl rfl ?_
  obtain ⟨g40, h⟩ := zok_g h
  refine yi_puti (pc' := 88) X zf_X5_49 zw_5_8 rfl (zpb _ (by decide)) (zpf (by decide)) (by decide) ha0 g40 dX5_init_85 rfl ?_
  refine yi_iconst (pc' := 89) (v := (0 : Int32)) X dX5_init_88 rfl rfl ?_
  refine yi_istore_n (pc' := 90) X dX5_init_89 rfl rfl (by decide) [(1, .int (0 : Int32)), (0, .ref (zad g a0))] rfl ?_
  exact yi_sub X [1, 0] _ rfl (vX5_init_90 X hin hret 200 a0 (0 : Int32) ((zst (zst (yk (zst (yk (zst (yk (zst m28 a0 4 1)) a0 5 1)) a0 6 1)) a0 7 1) a0 8 (0 : Int32))) ha0 h)
def bX6_init_124 (n0 : Nat) : Nat → Nat → Int32 → zMem → Option (Unit × zMem)
  | 0, _, _, _ => none
  | n + 1, a0, a1, μ =>
    if (10 : Int32) ≤ a1 then
      zgd (yn μ ≤ n0 + 11) (
      some ((), μ))
    else
      zgd (a0 < yn μ ∧ ¬ μ a0 0 = 0) (
      zgd ((a0 + 1) < yn μ) (
      zgd (zib ((77 : Int32) + a1) 87) (
      bX6_init_124 n0 n a0 (a1 + (1 : Int32)) (zst μ (a0 + 1) (((77 : Int32) + a1)).toNatClampNeg (-1 : Int32)))))
set_option maxRecDepth 100000 in
theorem vX6_init_124 {g : zG} {κ : zK} {n0 : Nat} (X : yC g κ RX6 cX6_init 2 1 11 n0) {Q : Unit → zMem → Prop} (hin : ∃ κ1 : Method, κ1.name = yX6_init.name ∧ κ.2.1.2.2.1 = κ1) (hret : ∀ pc lv μ', decode cX6_init pc = .ok (.return_, 1) → Q () μ' → yn μ' ≤ n0 + 11 → yV g κ n0 pc lv [] μ') : ∀ (n : Nat) (a0 : Nat) (a1 : Int32) (μ : zMem) (ha0 : zkd a0 = 6), zok (bX6_init_124 n0 n a0 a1 μ) Q → yV g κ n0 124 [(0, .ref (zad g a0)), (1, .int a1)] [] μ := by
  intro n
  induction n with
  | zero =>
    intro a0 a1 μ ha0 h
    exact h.elim
  | succ n ih =>
    intro a0 a1 μ ha0 h
    rw [bX6_init_124] at h
    refine yi_iload_n (pc' := 125) X dX6_init_124 rfl rfl 1 rfl ?_
    refine yi_bipush (pc' := 127) (v := (10 : Int32)) X dX6_init_125 rfl rfl ?_
    refine yi_icmp_ge (pc' := 130) (tgt := 146) X dX6_init_127 rfl rfl (fun c => ?_) (fun c => ?_)
    · replace h := zok_t h c
      obtain ⟨g38, h⟩ := zok_g h
      exact hret _ _ _ dX6_init_146 h g38
    · replace h := zok_f h c
      refine yi_aload_n (pc' := 131) X dX6_init_130 rfl rfl 0 rfl ?_
      obtain ⟨g39, h⟩ := zok_g h
      refine yi_getr (pc' := 134) X zf_X6_9 rfl (by decide) ha0 g39 dX6_init_131 rfl ?_
      have f40 := zr_6_0 ha0
      refine yi_bipush (pc' := 136) (v := (77 : Int32)) X dX6_init_134 rfl rfl ?_
      refine yi_iload_n (pc' := 137) X dX6_init_136 rfl rfl 1 rfl ?_
      refine yi_iadd (pc' := 138) X dX6_init_137 rfl ?_
      refine yi_iconst (pc' := 139) (v := (-1 : Int32)) X dX6_init_138 rfl rfl ?_
      obtain ⟨g41, h⟩ := zok_g h
      obtain ⟨g42, h⟩ := zok_g h
      refine yi_iast (pc' := 140) X f40.1 g41 (by rw [f40.2]; exact g42) dX6_init_139 rfl ?_
      refine yi_iinc (pc' := 143) (v := (a1 + (1 : Int32))) X dX6_init_140 rfl 1 rfl rfl (by decide) [(1, .int (a1 + (1 : Int32))), (0, .ref (zad g a0))] rfl ?_
      refine yi_goto (pc' := 124) X dX6_init_143 rfl ?_
      exact yi_sub X [1, 0] _ rfl (ih a0 (a1 + (1 : Int32)) ((zst μ (a0 + 1) (((77 : Int32) + a1)).toNatClampNeg (-1 : Int32))) ha0 h)
def bX6_init_100 (n0 : Nat) : Nat → Nat → Int32 → zMem → Option (Unit × zMem)
  | 0, _, _, _ => none
  | n + 1, a0, a1, μ =>
    if (25 : Int32) ≤ a1 then
      bX6_init_124 n0 200 a0 (0 : Int32) μ
    else
      zgd (a0 < yn μ ∧ ¬ μ a0 0 = 0) (
      zgd ((a0 + 1) < yn μ) (
      zgd (zib ((4 : Int32) + a1) 87) (
      bX6_init_100 n0 n a0 (a1 + (1 : Int32)) (zst μ (a0 + 1) (((4 : Int32) + a1)).toNatClampNeg (50 : Int32)))))
set_option maxRecDepth 100000 in
theorem vX6_init_100 {g : zG} {κ : zK} {n0 : Nat} (X : yC g κ RX6 cX6_init 2 1 11 n0) {Q : Unit → zMem → Prop} (hin : ∃ κ1 : Method, κ1.name = yX6_init.name ∧ κ.2.1.2.2.1 = κ1) (hret : ∀ pc lv μ', decode cX6_init pc = .ok (.return_, 1) → Q () μ' → yn μ' ≤ n0 + 11 → yV g κ n0 pc lv [] μ') : ∀ (n : Nat) (a0 : Nat) (a1 : Int32) (μ : zMem) (ha0 : zkd a0 = 6), zok (bX6_init_100 n0 n a0 a1 μ) Q → yV g κ n0 100 [(0, .ref (zad g a0)), (1, .int a1)] [] μ := by
  intro n
  induction n with
  | zero =>
    intro a0 a1 μ ha0 h
    exact h.elim
  | succ n ih =>
    intro a0 a1 μ ha0 h
    rw [bX6_init_100] at h
    refine yi_iload_n (pc' := 101) X dX6_init_100 rfl rfl 1 rfl ?_
    refine yi_bipush (pc' := 103) (v := (25 : Int32)) X dX6_init_101 rfl rfl ?_
    refine yi_icmp_ge (pc' := 106) (tgt := 122) X dX6_init_103 rfl rfl (fun c => ?_) (fun c => ?_)
    · replace h := zok_t h c
      refine yi_iconst (pc' := 123) (v := (0 : Int32)) X dX6_init_122 rfl rfl ?_
      refine yi_istore_n (pc' := 124) X dX6_init_123 rfl rfl (by decide) [(1, .int (0 : Int32)), (0, .ref (zad g a0))] rfl ?_
      exact yi_sub X [1, 0] _ rfl (vX6_init_124 X hin hret 200 a0 (0 : Int32) (μ) ha0 h)
    · replace h := zok_f h c
      refine yi_aload_n (pc' := 107) X dX6_init_106 rfl rfl 0 rfl ?_
      obtain ⟨g43, h⟩ := zok_g h
      refine yi_getr (pc' := 110) X zf_X6_9 rfl (by decide) ha0 g43 dX6_init_107 rfl ?_
      have f44 := zr_6_0 ha0
      refine yi_iconst (pc' := 111) (v := (4 : Int32)) X dX6_init_110 rfl rfl ?_
      refine yi_iload_n (pc' := 112) X dX6_init_111 rfl rfl 1 rfl ?_
      refine yi_iadd (pc' := 113) X dX6_init_112 rfl ?_
      refine yi_bipush (pc' := 115) (v := (50 : Int32)) X dX6_init_113 rfl rfl ?_
      obtain ⟨g45, h⟩ := zok_g h
      obtain ⟨g46, h⟩ := zok_g h
      refine yi_iast (pc' := 116) X f44.1 g45 (by rw [f44.2]; exact g46) dX6_init_115 rfl ?_
      refine yi_iinc (pc' := 119) (v := (a1 + (1 : Int32))) X dX6_init_116 rfl 1 rfl rfl (by decide) [(1, .int (a1 + (1 : Int32))), (0, .ref (zad g a0))] rfl ?_
      refine yi_goto (pc' := 100) X dX6_init_119 rfl ?_
      exact yi_sub X [1, 0] _ rfl (ih a0 (a1 + (1 : Int32)) ((zst μ (a0 + 1) (((4 : Int32) + a1)).toNatClampNeg (50 : Int32))) ha0 h)
def bX6_init (n0 : Nat) (a0 : Nat) (μ : zMem) : Option (Unit × zMem) :=
  zgd (ygA μ n0 11 7 (87 : Int32) = true) (
  zgd (a0 < yn (yk μ) ∧ (yn μ) = a0 + 1) (
  zgd (ygA (zst (yk μ) a0 0 1) n0 11 7 (87 : Int32) = true) (
  zgd (a0 < yn (yk (zst (yk μ) a0 0 1)) ∧ (yn (zst (yk μ) a0 0 1)) = a0 + 2) (
  zgd (ygA (zst (yk (zst (yk μ) a0 0 1)) a0 1 1) n0 11 7 (87 : Int32) = true) (
  zgd (a0 < yn (yk (zst (yk (zst (yk μ) a0 0 1)) a0 1 1)) ∧ (yn (zst (yk (zst (yk μ) a0 0 1)) a0 1 1)) = a0 + 3) (
  zgd (ygA (zst (yk (zst (yk (zst (yk μ) a0 0 1)) a0 1 1)) a0 2 1) n0 11 7 (7 : Int32) = true) (
  zgd (a0 < yn (yk (zst (yk (zst (yk (zst (yk μ) a0 0 1)) a0 1 1)) a0 2 1)) ∧ (yn (zst (yk (zst (yk (zst (yk μ) a0 0 1)) a0 1 1)) a0 2 1)) = a0 + 4) (
  zgd (ygA (zst (yk (zst (yk (zst (yk (zst (yk μ) a0 0 1)) a0 1 1)) a0 2 1)) a0 4 1) n0 11 7 (25 : Int32) = true) (
  zgd (a0 < yn (yk (zst (yk (zst (yk (zst (yk (zst (yk μ) a0 0 1)) a0 1 1)) a0 2 1)) a0 4 1)) ∧ (yn (zst (yk (zst (yk (zst (yk (zst (yk μ) a0 0 1)) a0 1 1)) a0 2 1)) a0 4 1)) = a0 + 5) (
  zgd (ygA (zst (yk (zst (yk (zst (yk (zst (yk (zst (yk μ) a0 0 1)) a0 1 1)) a0 2 1)) a0 4 1)) a0 5 1) n0 11 7 (25 : Int32) = true) (
  zgd (a0 < yn (yk (zst (yk (zst (yk (zst (yk (zst (yk (zst (yk μ) a0 0 1)) a0 1 1)) a0 2 1)) a0 4 1)) a0 5 1)) ∧ (yn (zst (yk (zst (yk (zst (yk (zst (yk (zst (yk μ) a0 0 1)) a0 1 1)) a0 2 1)) a0 4 1)) a0 5 1)) = a0 + 6) (
  zgd (ygA (zst (yk (zst (yk (zst (yk (zst (yk (zst (yk (zst (yk μ) a0 0 1)) a0 1 1)) a0 2 1)) a0 4 1)) a0 5 1)) a0 6 1) n0 11 7 (120 : Int32) = true) (
  zgd (a0 < yn (yk (zst (yk (zst (yk (zst (yk (zst (yk (zst (yk (zst (yk μ) a0 0 1)) a0 1 1)) a0 2 1)) a0 4 1)) a0 5 1)) a0 6 1)) ∧ (yn (zst (yk (zst (yk (zst (yk (zst (yk (zst (yk (zst (yk μ) a0 0 1)) a0 1 1)) a0 2 1)) a0 4 1)) a0 5 1)) a0 6 1)) = a0 + 7) (
  zgd (ygA (zst (yk (zst (yk (zst (yk (zst (yk (zst (yk (zst (yk (zst (yk μ) a0 0 1)) a0 1 1)) a0 2 1)) a0 4 1)) a0 5 1)) a0 6 1)) a0 7 1) n0 11 7 (4 : Int32) = true) (
  zgd (a0 < yn (yk (zst (yk (zst (yk (zst (yk (zst (yk (zst (yk (zst (yk (zst (yk μ) a0 0 1)) a0 1 1)) a0 2 1)) a0 4 1)) a0 5 1)) a0 6 1)) a0 7 1)) ∧ (yn (zst (yk (zst (yk (zst (yk (zst (yk (zst (yk (zst (yk (zst (yk μ) a0 0 1)) a0 1 1)) a0 2 1)) a0 4 1)) a0 5 1)) a0 6 1)) a0 7 1)) = a0 + 8) (
  zgd (ygA (zst (yk (zst (yk (zst (yk (zst (yk (zst (yk (zst (yk (zst (yk (zst (yk μ) a0 0 1)) a0 1 1)) a0 2 1)) a0 4 1)) a0 5 1)) a0 6 1)) a0 7 1)) a0 12 1) n0 11 7 (4 : Int32) = true) (
  zgd (a0 < yn (yk (zst (yk (zst (yk (zst (yk (zst (yk (zst (yk (zst (yk (zst (yk (zst (yk μ) a0 0 1)) a0 1 1)) a0 2 1)) a0 4 1)) a0 5 1)) a0 6 1)) a0 7 1)) a0 12 1)) ∧ (yn (zst (yk (zst (yk (zst (yk (zst (yk (zst (yk (zst (yk (zst (yk (zst (yk μ) a0 0 1)) a0 1 1)) a0 2 1)) a0 4 1)) a0 5 1)) a0 6 1)) a0 7 1)) a0 12 1)) = a0 + 9) (
  zgd (ygA (zst (yk (zst (yk (zst (yk (zst (yk (zst (yk (zst (yk (zst (yk (zst (yk (zst (yk μ) a0 0 1)) a0 1 1)) a0 2 1)) a0 4 1)) a0 5 1)) a0 6 1)) a0 7 1)) a0 12 1)) a0 13 1) n0 11 7 (160 : Int32) = true) (
  zgd (a0 < yn (yk (zst (yk (zst (yk (zst (yk (zst (yk (zst (yk (zst (yk (zst (yk (zst (yk (zst (yk μ) a0 0 1)) a0 1 1)) a0 2 1)) a0 4 1)) a0 5 1)) a0 6 1)) a0 7 1)) a0 12 1)) a0 13 1)) ∧ (yn (zst (yk (zst (yk (zst (yk (zst (yk (zst (yk (zst (yk (zst (yk (zst (yk (zst (yk μ) a0 0 1)) a0 1 1)) a0 2 1)) a0 4 1)) a0 5 1)) a0 6 1)) a0 7 1)) a0 12 1)) a0 13 1)) = a0 + 10) (
  zgd (ygA (zst (yk (zst (yk (zst (yk (zst (yk (zst (yk (zst (yk (zst (yk (zst (yk (zst (yk (zst (yk μ) a0 0 1)) a0 1 1)) a0 2 1)) a0 4 1)) a0 5 1)) a0 6 1)) a0 7 1)) a0 12 1)) a0 13 1)) a0 14 1) n0 11 7 (40 : Int32) = true) (
  zgd (a0 < yn (yk (zst (yk (zst (yk (zst (yk (zst (yk (zst (yk (zst (yk (zst (yk (zst (yk (zst (yk (zst (yk μ) a0 0 1)) a0 1 1)) a0 2 1)) a0 4 1)) a0 5 1)) a0 6 1)) a0 7 1)) a0 12 1)) a0 13 1)) a0 14 1)) ∧ (yn (zst (yk (zst (yk (zst (yk (zst (yk (zst (yk (zst (yk (zst (yk (zst (yk (zst (yk (zst (yk μ) a0 0 1)) a0 1 1)) a0 2 1)) a0 4 1)) a0 5 1)) a0 6 1)) a0 7 1)) a0 12 1)) a0 13 1)) a0 14 1)) = a0 + 11) (
  zgd (a0 < yn (zst (yk (zst (yk (zst (yk (zst (yk (zst (yk (zst (yk (zst (yk (zst (yk (zst (yk (zst (yk (zst (yk μ) a0 0 1)) a0 1 1)) a0 2 1)) a0 4 1)) a0 5 1)) a0 6 1)) a0 7 1)) a0 12 1)) a0 13 1)) a0 14 1)) a0 15 1) ∧ ¬ (zst (yk (zst (yk (zst (yk (zst (yk (zst (yk (zst (yk (zst (yk (zst (yk (zst (yk (zst (yk (zst (yk μ) a0 0 1)) a0 1 1)) a0 2 1)) a0 4 1)) a0 5 1)) a0 6 1)) a0 7 1)) a0 12 1)) a0 13 1)) a0 14 1)) a0 15 1) a0 0 = 0) (
  zgd ((a0 + 1) < yn (zst (yk (zst (yk (zst (yk (zst (yk (zst (yk (zst (yk (zst (yk (zst (yk (zst (yk (zst (yk (zst (yk μ) a0 0 1)) a0 1 1)) a0 2 1)) a0 4 1)) a0 5 1)) a0 6 1)) a0 7 1)) a0 12 1)) a0 13 1)) a0 14 1)) a0 15 1)) (
  zgd (zib (1 : Int32) 87) (
  bX6_init_100 n0 200 a0 (0 : Int32) (zst (zst (yk (zst (yk (zst (yk (zst (yk (zst (yk (zst (yk (zst (yk (zst (yk (zst (yk (zst (yk (zst (yk μ) a0 0 1)) a0 1 1)) a0 2 1)) a0 4 1)) a0 5 1)) a0 6 1)) a0 7 1)) a0 12 1)) a0 13 1)) a0 14 1)) a0 15 1) (a0 + 1) ((1 : Int32)).toNatClampNeg (1 : Int32)))))))))))))))))))))))))))
set_option maxRecDepth 100000 in
set_option maxHeartbeats 4000000 in
theorem uX6_init (g : zG) {a0 : Nat} {μ : zMem} {Q : Unit → zMem → Prop} (ha0 : zkd a0 = 6) (h : zok (bX6_init (yn μ) a0 μ) Q) : yTv g yX6_init cX6_init 2 1 11 [.ref (zad g a0)] μ Q := by
  refine yTv_of RX6 (by decide) rfl (Nat.le_of_ble_eq_true rfl) ?_
  intro κ hin X hret
  unfold bX6_init at h
  refine yi_aload_n (pc' := 1) X dX6_init_0 rfl rfl 0 rfl ?_
  refine yi_obj (pc' := 4) X zo_X6_3 (Nat.le_of_ble_eq_true rfl) (by decide) dX6_init_1 rfl ?_
  refine yi_aload_n (pc' := 5) X dX6_init_4 rfl rfl 0 rfl ?_
  refine yi_bipush (pc' := 7) (v := (87 : Int32)) X dX6_init_5 rfl rfl ?_
  obtain ⟨g1, h⟩ := zok_g h
  refine yi_newi (pc' := 9) X zarr_int (ygA_ok g1) dX6_init_7 rfl ?_
  have f2 : zR (yn μ) 7 (zln (yn μ)) := ⟨(ygA_ok g1).2.1, rfl⟩
  obtain ⟨g3, h⟩ := zok_g h
  refine yi_putr (pc' := 12) X zx_X6_9 hin rfl (by decide) ha0 g3 dX6_init_9 rfl ?_
  refine yi_aload_n (pc' := 13) X dX6_init_12 rfl rfl 0 rfl ?_
  refine yi_bipush (pc' := 15) (v := (87 : Int32)) X dX6_init_13 rfl rfl ?_
  obtain ⟨g4, h⟩ := zok_g h
  refine yi_newi (pc' := 17) X zarr_int (ygA_ok g4) dX6_init_15 rfl ?_
  have f5 : zR (yn (zst (yk μ) a0 0 1)) 7 (zln (yn (zst (yk μ) a0 0 1))) := ⟨(ygA_ok g4).2.1, rfl⟩
  obtain ⟨g6, h⟩ := zok_g h
  refine yi_putr (pc' := 20) X zx_X6_13 hin rfl (by decide) ha0 g6 dX6_init_17 rfl ?_
  refine yi_aload_n (pc' := 21) X dX6_init_20 rfl rfl 0 rfl ?_
  refine yi_bipush (pc' := 23) (v := (87 : Int32)) X dX6_init_21 rfl rfl ?_
  obtain ⟨g7, h⟩ := zok_g h
  refine yi_newi (pc' := 25) X zarr_int (ygA_ok g7) dX6_init_23 rfl ?_
  have f8 : zR (yn (zst (yk (zst (yk μ) a0 0 1)) a0 1 1)) 7 (zln (yn (zst (yk (zst (yk μ) a0 0 1)) a0 1 1))) := ⟨(ygA_ok g7).2.1, rfl⟩
  obtain ⟨g9, h⟩ := zok_g h
  refine yi_putr (pc' := 28) X zx_X6_16 hin rfl (by decide) ha0 g9 dX6_init_25 rfl ?_
  refine yi_aload_n (pc' := 29) X dX6_init_28 rfl rfl 0 rfl ?_
  refine yi_bipush (pc' := 31) (v := (7 : Int32)) X dX6_init_29 rfl rfl ?_
  obtain ⟨g10, h⟩ := zok_g h
  refine yi_newi (pc' := 33) X zarr_int (ygA_ok g10) dX6_init_31 rfl ?_
  have f11 : zR (yn (zst (yk (zst (yk (zst (yk μ) a0 0 1)) a0 1 1)) a0 2 1)) 7 (zln (yn (zst (yk (zst (yk (zst (yk μ) a0 0 1)) a0 1 1)) a0 2 1))) := ⟨(ygA_ok g10).2.1, rfl⟩
  obtain ⟨g12, h⟩ := zok_g h
  refine yi_putr (pc' := 36) X zx_X6_19 hin rfl (by decide) ha0 g12 dX6_init_33 rfl ?_
  refine yi_aload_n (pc' := 37) X dX6_init_36 rfl rfl 0 rfl ?_
  refine yi_bipush (pc' := 39) (v := (25 : Int32)) X dX6_init_37 rfl rfl ?_
  obtain ⟨g13, h⟩ := zok_g h
  refine yi_newi (pc' := 41) X zarr_int (ygA_ok g13) dX6_init_39 rfl ?_
  have f14 : zR (yn (zst (yk (zst (yk (zst (yk (zst (yk μ) a0 0 1)) a0 1 1)) a0 2 1)) a0 4 1)) 7 (zln (yn (zst (yk (zst (yk (zst (yk (zst (yk μ) a0 0 1)) a0 1 1)) a0 2 1)) a0 4 1))) := ⟨(ygA_ok g13).2.1, rfl⟩
  obtain ⟨g15, h⟩ := zok_g h
  refine yi_putr (pc' := 44) X zx_X6_22 hin rfl (by decide) ha0 g15 dX6_init_41 rfl ?_
  refine yi_aload_n (pc' := 45) X dX6_init_44 rfl rfl 0 rfl ?_
  refine yi_bipush (pc' := 47) (v := (25 : Int32)) X dX6_init_45 rfl rfl ?_
  obtain ⟨g16, h⟩ := zok_g h
  refine yi_newi (pc' := 49) X zarr_int (ygA_ok g16) dX6_init_47 rfl ?_
  have f17 : zR (yn (zst (yk (zst (yk (zst (yk (zst (yk (zst (yk μ) a0 0 1)) a0 1 1)) a0 2 1)) a0 4 1)) a0 5 1)) 7 (zln (yn (zst (yk (zst (yk (zst (yk (zst (yk (zst (yk μ) a0 0 1)) a0 1 1)) a0 2 1)) a0 4 1)) a0 5 1))) := ⟨(ygA_ok g16).2.1, rfl⟩
  obtain ⟨g18, h⟩ := zok_g h
  refine yi_putr (pc' := 52) X zx_X6_25 hin rfl (by decide) ha0 g18 dX6_init_49 rfl ?_
  refine yi_aload_n (pc' := 53) X dX6_init_52 rfl rfl 0 rfl ?_
  refine yi_bipush (pc' := 55) (v := (120 : Int32)) X dX6_init_53 rfl rfl ?_
  obtain ⟨g19, h⟩ := zok_g h
  refine yi_newi (pc' := 57) X zarr_int (ygA_ok g19) dX6_init_55 rfl ?_
  have f20 : zR (yn (zst (yk (zst (yk (zst (yk (zst (yk (zst (yk (zst (yk μ) a0 0 1)) a0 1 1)) a0 2 1)) a0 4 1)) a0 5 1)) a0 6 1)) 7 (zln (yn (zst (yk (zst (yk (zst (yk (zst (yk (zst (yk (zst (yk μ) a0 0 1)) a0 1 1)) a0 2 1)) a0 4 1)) a0 5 1)) a0 6 1))) := ⟨(ygA_ok g19).2.1, rfl⟩
  obtain ⟨g21, h⟩ := zok_g h
  refine yi_putr (pc' := 60) X zx_X6_28 hin rfl (by decide) ha0 g21 dX6_init_57 rfl ?_
  refine yi_aload_n (pc' := 61) X dX6_init_60 rfl rfl 0 rfl ?_
  refine yi_iconst (pc' := 62) (v := (4 : Int32)) X dX6_init_61 rfl rfl ?_
  obtain ⟨g22, h⟩ := zok_g h
  refine yi_newi (pc' := 64) X zarr_int (ygA_ok g22) dX6_init_62 rfl ?_
  have f23 : zR (yn (zst (yk (zst (yk (zst (yk (zst (yk (zst (yk (zst (yk (zst (yk μ) a0 0 1)) a0 1 1)) a0 2 1)) a0 4 1)) a0 5 1)) a0 6 1)) a0 7 1)) 7 (zln (yn (zst (yk (zst (yk (zst (yk (zst (yk (zst (yk (zst (yk (zst (yk μ) a0 0 1)) a0 1 1)) a0 2 1)) a0 4 1)) a0 5 1)) a0 6 1)) a0 7 1))) := ⟨(ygA_ok g22).2.1, rfl⟩
  obtain ⟨g24, h⟩ := zok_g h
  refine yi_putr (pc' := 67) X zx_X6_31 hin rfl (by decide) ha0 g24 dX6_init_64 rfl ?_
  refine yi_aload_n (pc' := 68) X dX6_init_67 rfl rfl 0 rfl ?_
  refine yi_iconst (pc' := 69) (v := (4 : Int32)) X dX6_init_68 rfl rfl ?_
  obtain ⟨g25, h⟩ := zok_g h
  refine yi_newi (pc' := 71) X zarr_int (ygA_ok g25) dX6_init_69 rfl ?_
  have f26 : zR (yn (zst (yk (zst (yk (zst (yk (zst (yk (zst (yk (zst (yk (zst (yk (zst (yk μ) a0 0 1)) a0 1 1)) a0 2 1)) a0 4 1)) a0 5 1)) a0 6 1)) a0 7 1)) a0 12 1)) 7 (zln (yn (zst (yk (zst (yk (zst (yk (zst (yk (zst (yk (zst (yk (zst (yk (zst (yk μ) a0 0 1)) a0 1 1)) a0 2 1)) a0 4 1)) a0 5 1)) a0 6 1)) a0 7 1)) a0 12 1))) := ⟨(ygA_ok g25).2.1, rfl⟩
  obtain ⟨g27, h⟩ := zok_g h
  refine yi_putr (pc' := 74) X zx_X6_34 hin rfl (by decide) ha0 g27 dX6_init_71 rfl ?_
  refine yi_aload_n (pc' := 75) X dX6_init_74 rfl rfl 0 rfl ?_
  refine yi_sipush (pc' := 78) (v := (160 : Int32)) X dX6_init_75 rfl rfl ?_
  obtain ⟨g28, h⟩ := zok_g h
  refine yi_newi (pc' := 80) X zarr_int (ygA_ok g28) dX6_init_78 rfl ?_
  have f29 : zR (yn (zst (yk (zst (yk (zst (yk (zst (yk (zst (yk (zst (yk (zst (yk (zst (yk (zst (yk μ) a0 0 1)) a0 1 1)) a0 2 1)) a0 4 1)) a0 5 1)) a0 6 1)) a0 7 1)) a0 12 1)) a0 13 1)) 7 (zln (yn (zst (yk (zst (yk (zst (yk (zst (yk (zst (yk (zst (yk (zst (yk (zst (yk (zst (yk μ) a0 0 1)) a0 1 1)) a0 2 1)) a0 4 1)) a0 5 1)) a0 6 1)) a0 7 1)) a0 12 1)) a0 13 1))) := ⟨(ygA_ok g28).2.1, rfl⟩
  obtain ⟨g30, h⟩ := zok_g h
  refine yi_putr (pc' := 83) X zx_X6_37 hin rfl (by decide) ha0 g30 dX6_init_80 rfl ?_
  refine yi_aload_n (pc' := 84) X dX6_init_83 rfl rfl 0 rfl ?_
  refine yi_bipush (pc' := 86) (v := (40 : Int32)) X dX6_init_84 rfl rfl ?_
  obtain ⟨g31, h⟩ := zok_g h
  refine yi_newi (pc' := 88) X zarr_int (ygA_ok g31) dX6_init_86 rfl ?_
  have f32 : zR (yn (zst (yk (zst (yk (zst (yk (zst (yk (zst (yk (zst (yk (zst (yk (zst (yk (zst (yk (zst (yk μ) a0 0 1)) a0 1 1)) a0 2 1)) a0 4 1)) a0 5 1)) a0 6 1)) a0 7 1)) a0 12 1)) a0 13 1)) a0 14 1)) 7 (zln (yn (zst (yk (zst (yk (zst (yk (zst (yk (zst (yk (zst (yk (zst (yk (zst (yk (zst (yk (zst (yk μ) a0 0 1)) a0 1 1)) a0 2 1)) a0 4 1)) a0 5 1)) a0 6 1)) a0 7 1)) a0 12 1)) a0 13 1)) a0 14 1))) := ⟨(ygA_ok g31).2.1, rfl⟩
  obtain ⟨g33, h⟩ := zok_g h
  refine yi_putr (pc' := 91) X zx_X6_40 hin rfl (by decide) ha0 g33 dX6_init_88 rfl ?_
  refine yi_aload_n (pc' := 92) X dX6_init_91 rfl rfl 0 rfl ?_
  obtain ⟨g34, h⟩ := zok_g h
  refine yi_getr (pc' := 95) X zf_X6_9 rfl (by decide) ha0 g34 dX6_init_92 rfl ?_
  have f35 := zr_6_0 ha0
  refine yi_iconst (pc' := 96) (v := (1 : Int32)) X dX6_init_95 rfl rfl ?_
  refine yi_iconst (pc' := 97) (v := (1 : Int32)) X dX6_init_96 rfl rfl ?_
  obtain ⟨g36, h⟩ := zok_g h
  obtain ⟨g37, h⟩ := zok_g h
  refine yi_iast (pc' := 98) X f35.1 g36 (by rw [f35.2]; exact g37) dX6_init_97 rfl ?_
  refine yi_iconst (pc' := 99) (v := (0 : Int32)) X dX6_init_98 rfl rfl ?_
  refine yi_istore_n (pc' := 100) X dX6_init_99 rfl rfl (by decide) [(1, .int (0 : Int32)), (0, .ref (zad g a0))] rfl ?_
  exact yi_sub X [1, 0] _ rfl (vX6_init_100 X hin hret 200 a0 (0 : Int32) ((zst (zst (yk (zst (yk (zst (yk (zst (yk (zst (yk (zst (yk (zst (yk (zst (yk (zst (yk (zst (yk (zst (yk μ) a0 0 1)) a0 1 1)) a0 2 1)) a0 4 1)) a0 5 1)) a0 6 1)) a0 7 1)) a0 12 1)) a0 13 1)) a0 14 1)) a0 15 1) (a0 + 1) ((1 : Int32)).toNatClampNeg (1 : Int32))) ha0 h)
