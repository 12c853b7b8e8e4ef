theorem sub_r {big : List Cond} (ws : List Cond) (ps : List Nat) (hp : ws = ps.filterMap (fun i => big[i]?)) : ∀ w ∈ ws, w ∈ big := by
  intro w hw
  rw [hp] at hw
  obtain ⟨i, -, hi⟩ := List.mem_filterMap.mp hw
  exact List.mem_of_getElem? hi
set_option maxRecDepth 100000 in
theorem tw_0 : Cond.code yX8_init cX8_init 1 none ∈ lw_tbl := List.mem_append_right _ (List.mem_append_left _ (List.mem_of_getElem? (i := 17) rfl))
set_option maxRecDepth 100000 in
theorem tw_1 : Cond.fieldLink RX8 43 "HassockSee" "unpicking" "LHassockSee$Unpicking;" ∈ lw_tbl := List.mem_append_right _ (List.mem_append_left _ (List.mem_of_getElem? (i := 213) rfl))
set_option maxRecDepth 100000 in
theorem tw_2 : Cond.initialized RX5 ∈ lw_tbl := List.mem_append_right _ (List.mem_append_left _ (List.mem_of_getElem? (i := 6) rfl))
set_option maxRecDepth 100000 in
theorem tw_3 : Cond.instantiable RX5 1 ∈ lw_tbl := List.mem_append_right _ (List.mem_append_left _ (List.mem_of_getElem? (i := 133) rfl))
set_option maxRecDepth 100000 in
theorem tw_4 : Cond.classLink RX8 40 RX5 ∈ lw_tbl := List.mem_append_right _ (List.mem_append_left _ (List.mem_of_getElem? (i := 132) rfl))
set_option maxRecDepth 100000 in
theorem tw_5 : Cond.fieldLink RX8 36 "HassockSee" "arrangements" "LHassockSee$Arrangements;" ∈ lw_tbl := List.mem_append_right _ (List.mem_append_left _ (List.mem_of_getElem? (i := 212) rfl))
set_option maxRecDepth 100000 in
theorem tw_6 : Cond.initialized RX0 ∈ lw_tbl := List.mem_append_right _ (List.mem_append_left _ (List.mem_of_getElem? (i := 5) rfl))
set_option maxRecDepth 100000 in
theorem tw_7 : Cond.instantiable RX0 7 ∈ lw_tbl := List.mem_append_right _ (List.mem_append_left _ (List.mem_of_getElem? (i := 103) rfl))
set_option maxRecDepth 100000 in
theorem tw_8 : Cond.classLink RX8 33 RX0 ∈ lw_tbl := List.mem_append_right _ (List.mem_append_left _ (List.mem_of_getElem? (i := 102) rfl))
set_option maxRecDepth 100000 in
theorem tw_9 : Cond.fieldLink RX8 29 "HassockSee" "years" "LHassockSee$Years;" ∈ lw_tbl := List.mem_append_right _ (List.mem_append_left _ (List.mem_of_getElem? (i := 211) rfl))
set_option maxRecDepth 100000 in
theorem tw_10 : Cond.initialized RX7 ∈ lw_tbl := List.mem_append_right _ (List.mem_append_left _ (List.mem_of_getElem? (i := 4) rfl))
set_option maxRecDepth 100000 in
theorem tw_11 : Cond.instantiable RX7 6 ∈ lw_tbl := List.mem_append_right _ (List.mem_append_left _ (List.mem_of_getElem? (i := 72) rfl))
set_option maxRecDepth 100000 in
theorem tw_12 : Cond.classLink RX8 26 RX7 ∈ lw_tbl := List.mem_append_right _ (List.mem_append_left _ (List.mem_of_getElem? (i := 71) rfl))
set_option maxRecDepth 100000 in
theorem tw_13 : Cond.fieldLink RX8 22 "HassockSee" "pad" "LHassockSee$Pad;" ∈ lw_tbl := List.mem_append_right _ (List.mem_append_left _ (List.mem_of_getElem? (i := 210) rfl))
set_option maxRecDepth 100000 in
theorem tw_14 : Cond.initialized RX3 ∈ lw_tbl := List.mem_append_right _ (List.mem_append_left _ (List.mem_of_getElem? (i := 3) rfl))
set_option maxRecDepth 100000 in
theorem tw_15 : Cond.instantiable RX3 2 ∈ lw_tbl := List.mem_append_right _ (List.mem_append_left _ (List.mem_of_getElem? (i := 57) rfl))
set_option maxRecDepth 100000 in
theorem tw_16 : Cond.classLink RX8 19 RX3 ∈ lw_tbl := List.mem_append_right _ (List.mem_append_left _ (List.mem_of_getElem? (i := 56) rfl))
set_option maxRecDepth 100000 in
theorem tw_17 : Cond.fieldLink RX8 16 "HassockSee" "trial" "LHassockSee$Diocese;" ∈ lw_tbl := List.mem_append_right _ (List.mem_append_left _ (List.mem_of_getElem? (i := 209) rfl))
set_option maxRecDepth 100000 in
theorem tw_18 : Cond.fieldLink RX8 10 "HassockSee" "now" "LHassockSee$Diocese;" ∈ lw_tbl := List.mem_append_right _ (List.mem_append_left _ (List.mem_of_getElem? (i := 208) rfl))
set_option maxRecDepth 100000 in
theorem tw_19 : Cond.initialized RX1 ∈ lw_tbl := List.mem_append_right _ (List.mem_append_left _ (List.mem_of_getElem? (i := 2) rfl))
set_option maxRecDepth 100000 in
theorem tw_20 : Cond.instantiable RX1 6 ∈ lw_tbl := List.mem_append_right _ (List.mem_append_left _ (List.mem_of_getElem? (i := 22) rfl))
set_option maxRecDepth 100000 in
theorem tw_21 : Cond.classLink RX8 7 RX1 ∈ lw_tbl := List.mem_append_right _ (List.mem_append_left _ (List.mem_of_getElem? (i := 21) rfl))
set_option maxRecDepth 100000 in
theorem tw_22 : Cond.code objectInit ⟨#[0xb1]⟩ 1 none ∈ lw_tbl := List.mem_append_right _ (List.mem_append_left _ (List.mem_of_getElem? (i := 20) rfl))
set_option maxRecDepth 100000 in
theorem tw_23 : Cond.instanceMethod objectInit ∈ lw_tbl := List.mem_append_right _ (List.mem_append_left _ (List.mem_of_getElem? (i := 19) rfl))
set_option maxRecDepth 100000 in
theorem tw_24 : Cond.methodLink RX8 1 objectInit ∈ lw_tbl := List.mem_append_right _ (List.mem_append_left _ (List.mem_of_getElem? (i := 18) rfl))
set_option maxRecDepth 100000 in
theorem lt_wsX8_init_r1 : ∀ w ∈ wsX8_init_r1, w ∈ lw_tbl := (List.forall_mem_cons.mpr ⟨tw_24, (List.forall_mem_cons.mpr ⟨tw_23, (List.forall_mem_cons.mpr ⟨tw_22, (List.forall_mem_cons.mpr ⟨tw_21, (List.forall_mem_cons.mpr ⟨tw_20, (List.forall_mem_cons.mpr ⟨tw_19, (List.forall_mem_cons.mpr ⟨tw_18, (List.forall_mem_cons.mpr ⟨tw_17, (List.forall_mem_cons.mpr ⟨tw_16, (List.forall_mem_cons.mpr ⟨tw_15, (List.forall_mem_cons.mpr ⟨tw_14, (List.forall_mem_cons.mpr ⟨tw_13, (List.forall_mem_cons.mpr ⟨tw_12, (List.forall_mem_cons.mpr ⟨tw_11, (List.forall_mem_cons.mpr ⟨tw_10, (List.forall_mem_cons.mpr ⟨tw_9, (List.forall_mem_cons.mpr ⟨tw_8, (List.forall_mem_cons.mpr ⟨tw_7, (List.forall_mem_cons.mpr ⟨tw_6, (List.forall_mem_cons.mpr ⟨tw_5, (List.forall_mem_cons.mpr ⟨tw_4, (List.forall_mem_cons.mpr ⟨tw_3, (List.forall_mem_cons.mpr ⟨tw_2, (List.forall_mem_cons.mpr ⟨tw_1, (fun _ h => absurd h List.not_mem_nil)⟩)⟩)⟩)⟩)⟩)⟩)⟩)⟩)⟩)⟩)⟩)⟩)⟩)⟩)⟩)⟩)⟩)⟩)⟩)⟩)⟩)⟩)⟩)⟩)
set_option maxRecDepth 100000 in
theorem tw_25 : Cond.fieldLink RX1 28 "HassockSee$Diocese" "place" "[I" ∈ lw_tbl := List.mem_append_right _ (List.mem_append_left _ (List.mem_of_getElem? (i := 40) rfl))
set_option maxRecDepth 100000 in
theorem tw_26 : Cond.fieldLink RX1 25 "HassockSee$Diocese" "stitches" "[I" ∈ lw_tbl := List.mem_append_right _ (List.mem_append_left _ (List.mem_of_getElem? (i := 37) rfl))
set_option maxRecDepth 100000 in
theorem tw_27 : Cond.fieldLink RX1 21 "HassockSee$Diocese" "wool" "[I" ∈ lw_tbl := List.mem_append_right _ (List.mem_append_left _ (List.mem_of_getElem? (i := 34) rfl))
set_option maxRecDepth 100000 in
theorem tw_28 : Cond.arrayClass .int ∈ lw_tbl := List.mem_append_right _ (List.mem_append_left _ (List.mem_of_getElem? (i := 55) rfl))
set_option maxRecDepth 100000 in
theorem tw_29 : Cond.fieldLink RX1 18 "HassockSee$Diocese" "year" "I" ∈ lw_tbl := List.mem_append_right _ (List.mem_append_left _ (List.mem_of_getElem? (i := 32) rfl))
set_option maxRecDepth 100000 in
theorem tw_30 : Cond.fieldLink RX1 15 "HassockSee$Diocese" "hair" "I" ∈ lw_tbl := List.mem_append_right _ (List.mem_append_left _ (List.mem_of_getElem? (i := 30) rfl))
set_option maxRecDepth 100000 in
theorem tw_31 : Cond.fieldLink RX1 9 "HassockSee$Diocese" "there" "I" ∈ lw_tbl := List.mem_append_right _ (List.mem_append_left _ (List.mem_of_getElem? (i := 27) rfl))
set_option maxRecDepth 100000 in
theorem tw_32 : Cond.methodLink RX1 3 objectInit ∈ lw_tbl := List.mem_append_right _ (List.mem_append_left _ (List.mem_of_getElem? (i := 26) rfl))
set_option maxRecDepth 100000 in
theorem tw_33 : Cond.code yX1_init cX1_init 2 none ∈ lw_tbl := List.mem_append_right _ (List.mem_append_left _ (List.mem_of_getElem? (i := 25) rfl))
set_option maxRecDepth 100000 in
theorem tw_34 : Cond.instanceMethod yX1_init ∈ lw_tbl := List.mem_append_right _ (List.mem_append_left _ (List.mem_of_getElem? (i := 24) rfl))
set_option maxRecDepth 100000 in
theorem tw_35 : Cond.methodLink RX8 9 yX1_init ∈ lw_tbl := List.mem_append_right _ (List.mem_append_left _ (List.mem_of_getElem? (i := 23) rfl))
set_option maxRecDepth 100000 in
theorem tw_36 : Cond.fieldLink RX8 68 "HassockSee" "secondImage" "LHassockSee$Image;" ∈ lw_tbl := List.mem_append_right _ (List.mem_append_left _ (List.mem_of_getElem? (i := 217) rfl))
set_option maxRecDepth 100000 in
theorem tw_37 : Cond.fieldLink RX8 64 "HassockSee" "firstImage" "LHassockSee$Image;" ∈ lw_tbl := List.mem_append_right _ (List.mem_append_left _ (List.mem_of_getElem? (i := 216) rfl))
set_option maxRecDepth 100000 in
theorem tw_38 : Cond.initialized RX2 ∈ lw_tbl := List.mem_append_right _ (List.mem_append_left _ (List.mem_of_getElem? (i := 9) rfl))
set_option maxRecDepth 100000 in
theorem tw_39 : Cond.instantiable RX2 3 ∈ lw_tbl := List.mem_append_right _ (List.mem_append_left _ (List.mem_of_getElem? (i := 189) rfl))
set_option maxRecDepth 100000 in
theorem tw_40 : Cond.classLink RX8 61 RX2 ∈ lw_tbl := List.mem_append_right _ (List.mem_append_left _ (List.mem_of_getElem? (i := 188) rfl))
set_option maxRecDepth 100000 in
theorem tw_41 : Cond.fieldLink RX8 57 "HassockSee" "wear" "LHassockSee$Wear;" ∈ lw_tbl := List.mem_append_right _ (List.mem_append_left _ (List.mem_of_getElem? (i := 215) rfl))
set_option maxRecDepth 100000 in
theorem tw_42 : Cond.initialized RX6 ∈ lw_tbl := List.mem_append_right _ (List.mem_append_left _ (List.mem_of_getElem? (i := 8) rfl))
set_option maxRecDepth 100000 in
theorem tw_43 : Cond.instantiable RX6 5 ∈ lw_tbl := List.mem_append_right _ (List.mem_append_left _ (List.mem_of_getElem? (i := 164) rfl))
set_option maxRecDepth 100000 in
theorem tw_44 : Cond.classLink RX8 54 RX6 ∈ lw_tbl := List.mem_append_right _ (List.mem_append_left _ (List.mem_of_getElem? (i := 163) rfl))
set_option maxRecDepth 100000 in
theorem tw_45 : Cond.fieldLink RX8 50 "HassockSee" "sights" "LHassockSee$Sights;" ∈ lw_tbl := List.mem_append_right _ (List.mem_append_left _ (List.mem_of_getElem? (i := 214) rfl))
set_option maxRecDepth 100000 in
theorem tw_46 : Cond.initialized RX4 ∈ lw_tbl := List.mem_append_right _ (List.mem_append_left _ (List.mem_of_getElem? (i := 7) rfl))
set_option maxRecDepth 100000 in
theorem tw_47 : Cond.instantiable RX4 3 ∈ lw_tbl := List.mem_append_right _ (List.mem_append_left _ (List.mem_of_getElem? (i := 147) rfl))
set_option maxRecDepth 100000 in
theorem tw_48 : Cond.classLink RX8 47 RX4 ∈ lw_tbl := List.mem_append_right _ (List.mem_append_left _ (List.mem_of_getElem? (i := 146) rfl))
set_option maxRecDepth 100000 in
theorem lt_wsX8_init_r2 : ∀ w ∈ wsX8_init_r2, w ∈ lw_tbl := (List.forall_mem_cons.mpr ⟨tw_48, (List.forall_mem_cons.mpr ⟨tw_47, (List.forall_mem_cons.mpr ⟨tw_46, (List.forall_mem_cons.mpr ⟨tw_45, (List.forall_mem_cons.mpr ⟨tw_44, (List.forall_mem_cons.mpr ⟨tw_43, (List.forall_mem_cons.mpr ⟨tw_42, (List.forall_mem_cons.mpr ⟨tw_41, (List.forall_mem_cons.mpr ⟨tw_40, (List.forall_mem_cons.mpr ⟨tw_39, (List.forall_mem_cons.mpr ⟨tw_38, (List.forall_mem_cons.mpr ⟨tw_37, (List.forall_mem_cons.mpr ⟨tw_36, (List.forall_mem_cons.mpr ⟨tw_35, (List.forall_mem_cons.mpr ⟨tw_34, (List.forall_mem_cons.mpr ⟨tw_33, (List.forall_mem_cons.mpr ⟨tw_32, (List.forall_mem_cons.mpr ⟨tw_31, (List.forall_mem_cons.mpr ⟨tw_30, (List.forall_mem_cons.mpr ⟨tw_29, (List.forall_mem_cons.mpr ⟨tw_28, (List.forall_mem_cons.mpr ⟨tw_27, (List.forall_mem_cons.mpr ⟨tw_26, (List.forall_mem_cons.mpr ⟨tw_25, (fun _ h => absurd h List.not_mem_nil)⟩)⟩)⟩)⟩)⟩)⟩)⟩)⟩)⟩)⟩)⟩)⟩)⟩)⟩)⟩)⟩)⟩)⟩)⟩)⟩)⟩)⟩)⟩)⟩)
set_option maxRecDepth 100000 in
theorem tw_49 : Cond.selects RX5 yX5_findMove yX5_findMove ∈ lw_tbl := List.mem_append_left _ (List.mem_of_getElem? (i := 0) rfl)
set_option maxRecDepth 100000 in
theorem tw_50 : Cond.instanceMethod yX5_findMove ∈ lw_tbl := List.mem_append_right _ (List.mem_append_left _ (List.mem_of_getElem? (i := 140) rfl))
set_option maxRecDepth 100000 in
theorem tw_51 : Cond.methodLink RX5 15 yX5_findMove ∈ lw_tbl := List.mem_append_right _ (List.mem_append_left _ (List.mem_of_getElem? (i := 138) rfl))
set_option maxRecDepth 100000 in
theorem tw_52 : Cond.fieldLink RX5 9 "HassockSee$Unpicking" "moveOf" "[I" ∈ lw_tbl := List.mem_append_right _ (List.mem_append_left _ (List.mem_of_getElem? (i := 142) rfl))
set_option maxRecDepth 100000 in
theorem tw_53 : Cond.methodLink RX5 3 objectInit ∈ lw_tbl := List.mem_append_right _ (List.mem_append_left _ (List.mem_of_getElem? (i := 137) rfl))
set_option maxRecDepth 100000 in
theorem tw_54 : Cond.code yX5_init cX5_init 2 none ∈ lw_tbl := List.mem_append_right _ (List.mem_append_left _ (List.mem_of_getElem? (i := 136) rfl))
set_option maxRecDepth 100000 in
theorem tw_55 : Cond.instanceMethod yX5_init ∈ lw_tbl := List.mem_append_right _ (List.mem_append_left _ (List.mem_of_getElem? (i := 135) rfl))
set_option maxRecDepth 100000 in
theorem tw_56 : Cond.methodLink RX8 42 yX5_init ∈ lw_tbl := List.mem_append_right _ (List.mem_append_left _ (List.mem_of_getElem? (i := 134) rfl))
set_option maxRecDepth 100000 in
theorem tw_57 : Cond.fieldLink RX0 24 "HassockSee$Arrangements" "weightOf" "[I" ∈ lw_tbl := List.mem_append_right _ (List.mem_append_left _ (List.mem_of_getElem? (i := 116) rfl))
set_option maxRecDepth 100000 in
theorem tw_58 : Cond.fieldLink RX0 21 "HassockSee$Arrangements" "parishesOf" "[I" ∈ lw_tbl := List.mem_append_right _ (List.mem_append_left _ (List.mem_of_getElem? (i := 115) rfl))
set_option maxRecDepth 100000 in
theorem tw_59 : Cond.fieldLink RX0 18 "HassockSee$Arrangements" "stitchesOf" "[I" ∈ lw_tbl := List.mem_append_right _ (List.mem_append_left _ (List.mem_of_getElem? (i := 114) rfl))
set_option maxRecDepth 100000 in
theorem tw_60 : Cond.fieldLink RX0 15 "HassockSee$Arrangements" "rowOf" "[I" ∈ lw_tbl := List.mem_append_right _ (List.mem_append_left _ (List.mem_of_getElem? (i := 113) rfl))
set_option maxRecDepth 100000 in
theorem tw_61 : Cond.fieldLink RX0 9 "HassockSee$Arrangements" "between" "[I" ∈ lw_tbl := List.mem_append_right _ (List.mem_append_left _ (List.mem_of_getElem? (i := 112) rfl))
set_option maxRecDepth 100000 in
theorem tw_62 : Cond.methodLink RX0 3 objectInit ∈ lw_tbl := List.mem_append_right _ (List.mem_append_left _ (List.mem_of_getElem? (i := 107) rfl))
set_option maxRecDepth 100000 in
theorem tw_63 : Cond.code yX0_init cX0_init 1 none ∈ lw_tbl := List.mem_append_right _ (List.mem_append_left _ (List.mem_of_getElem? (i := 106) rfl))
set_option maxRecDepth 100000 in
theorem tw_64 : Cond.instanceMethod yX0_init ∈ lw_tbl := List.mem_append_right _ (List.mem_append_left _ (List.mem_of_getElem? (i := 105) rfl))
set_option maxRecDepth 100000 in
theorem tw_65 : Cond.methodLink RX7 3 objectInit ∈ lw_tbl := List.mem_append_right _ (List.mem_append_left _ (List.mem_of_getElem? (i := 76) rfl))
set_option maxRecDepth 100000 in
theorem tw_66 : Cond.code yX7_init cX7_init 1 none ∈ lw_tbl := List.mem_append_right _ (List.mem_append_left _ (List.mem_of_getElem? (i := 75) rfl))
set_option maxRecDepth 100000 in
theorem tw_67 : Cond.instanceMethod yX7_init ∈ lw_tbl := List.mem_append_right _ (List.mem_append_left _ (List.mem_of_getElem? (i := 74) rfl))
set_option maxRecDepth 100000 in
theorem tw_68 : Cond.fieldLink RX3 15 "HassockSee$Pad" "signs" "[I" ∈ lw_tbl := List.mem_append_right _ (List.mem_append_left _ (List.mem_of_getElem? (i := 65) rfl))
set_option maxRecDepth 100000 in
theorem tw_69 : Cond.fieldLink RX3 9 "HassockSee$Pad" "count" "I" ∈ lw_tbl := List.mem_append_right _ (List.mem_append_left _ (List.mem_of_getElem? (i := 62) rfl))
set_option maxRecDepth 100000 in
theorem tw_70 : Cond.methodLink RX3 3 objectInit ∈ lw_tbl := List.mem_append_right _ (List.mem_append_left _ (List.mem_of_getElem? (i := 61) rfl))
set_option maxRecDepth 100000 in
theorem tw_71 : Cond.code yX3_init cX3_init 1 none ∈ lw_tbl := List.mem_append_right _ (List.mem_append_left _ (List.mem_of_getElem? (i := 60) rfl))
set_option maxRecDepth 100000 in
theorem tw_72 : Cond.instanceMethod yX3_init ∈ lw_tbl := List.mem_append_right _ (List.mem_append_left _ (List.mem_of_getElem? (i := 59) rfl))
set_option maxRecDepth 100000 in
theorem lt_wsX8_init_r3 : ∀ w ∈ wsX8_init_r3, w ∈ lw_tbl := (List.forall_mem_cons.mpr ⟨tw_72, (List.forall_mem_cons.mpr ⟨tw_71, (List.forall_mem_cons.mpr ⟨tw_70, (List.forall_mem_cons.mpr ⟨tw_69, (List.forall_mem_cons.mpr ⟨tw_68, (List.forall_mem_cons.mpr ⟨tw_67, (List.forall_mem_cons.mpr ⟨tw_66, (List.forall_mem_cons.mpr ⟨tw_65, (List.forall_mem_cons.mpr ⟨tw_64, (List.forall_mem_cons.mpr ⟨tw_63, (List.forall_mem_cons.mpr ⟨tw_62, (List.forall_mem_cons.mpr ⟨tw_61, (List.forall_mem_cons.mpr ⟨tw_60, (List.forall_mem_cons.mpr ⟨tw_59, (List.forall_mem_cons.mpr ⟨tw_58, (List.forall_mem_cons.mpr ⟨tw_57, (List.forall_mem_cons.mpr ⟨tw_56, (List.forall_mem_cons.mpr ⟨tw_55, (List.forall_mem_cons.mpr ⟨tw_54, (List.forall_mem_cons.mpr ⟨tw_53, (List.forall_mem_cons.mpr ⟨tw_52, (List.forall_mem_cons.mpr ⟨tw_51, (List.forall_mem_cons.mpr ⟨tw_50, (List.forall_mem_cons.mpr ⟨tw_49, (fun _ h => absurd h List.not_mem_nil)⟩)⟩)⟩)⟩)⟩)⟩)⟩)⟩)⟩)⟩)⟩)⟩)⟩)⟩)⟩)⟩)⟩)⟩)⟩)⟩)⟩)⟩)⟩)⟩)
set_option maxRecDepth 100000 in
theorem tw_73 : Cond.methodLink RX2 15 yX1_init ∈ lw_tbl := List.mem_append_right _ (List.mem_append_left _ (List.mem_of_getElem? (i := 195) rfl))
set_option maxRecDepth 100000 in
theorem tw_74 : Cond.fieldLink RX2 23 "HassockSee$Image" "sights" "LHassockSee$Sights;" ∈ lw_tbl := List.mem_append_right _ (List.mem_append_left _ (List.mem_of_getElem? (i := 200) rfl))
set_option maxRecDepth 100000 in
theorem tw_75 : Cond.classLink RX2 20 RX4 ∈ lw_tbl := List.mem_append_right _ (List.mem_append_left _ (List.mem_of_getElem? (i := 196) rfl))
set_option maxRecDepth 100000 in
theorem tw_76 : Cond.fieldLink RX2 16 "HassockSee$Image" "diocese" "LHassockSee$Diocese;" ∈ lw_tbl := List.mem_append_right _ (List.mem_append_left _ (List.mem_of_getElem? (i := 199) rfl))
set_option maxRecDepth 100000 in
theorem tw_77 : Cond.classLink RX2 13 RX1 ∈ lw_tbl := List.mem_append_right _ (List.mem_append_left _ (List.mem_of_getElem? (i := 194) rfl))
set_option maxRecDepth 100000 in
theorem tw_78 : Cond.fieldLink RX2 7 "HassockSee$Image" "kept" "Z" ∈ lw_tbl := List.mem_append_right _ (List.mem_append_left _ (List.mem_of_getElem? (i := 198) rfl))
set_option maxRecDepth 100000 in
theorem tw_79 : Cond.methodLink RX2 1 objectInit ∈ lw_tbl := List.mem_append_right _ (List.mem_append_left _ (List.mem_of_getElem? (i := 193) rfl))
set_option maxRecDepth 100000 in
theorem tw_80 : Cond.code yX2_init cX2_init 1 none ∈ lw_tbl := List.mem_append_right _ (List.mem_append_left _ (List.mem_of_getElem? (i := 192) rfl))
set_option maxRecDepth 100000 in
theorem tw_81 : Cond.instanceMethod yX2_init ∈ lw_tbl := List.mem_append_right _ (List.mem_append_left _ (List.mem_of_getElem? (i := 191) rfl))
set_option maxRecDepth 100000 in
theorem tw_82 : Cond.fieldLink RX6 15 "HassockSee$Wear" "feltSo" "[I" ∈ lw_tbl := List.mem_append_right _ (List.mem_append_left _ (List.mem_of_getElem? (i := 176) rfl))
set_option maxRecDepth 100000 in
theorem tw_83 : Cond.fieldLink RX6 9 "HassockSee$Wear" "fitting" "[I" ∈ lw_tbl := List.mem_append_right _ (List.mem_append_left _ (List.mem_of_getElem? (i := 175) rfl))
set_option maxRecDepth 100000 in
theorem tw_84 : Cond.methodLink RX6 3 objectInit ∈ lw_tbl := List.mem_append_right _ (List.mem_append_left _ (List.mem_of_getElem? (i := 168) rfl))
set_option maxRecDepth 100000 in
theorem tw_85 : Cond.code yX6_init cX6_init 1 none ∈ lw_tbl := List.mem_append_right _ (List.mem_append_left _ (List.mem_of_getElem? (i := 167) rfl))
set_option maxRecDepth 100000 in
theorem tw_86 : Cond.instanceMethod yX6_init ∈ lw_tbl := List.mem_append_right _ (List.mem_append_left _ (List.mem_of_getElem? (i := 166) rfl))
set_option maxRecDepth 100000 in
theorem tw_87 : Cond.fieldLink RX4 19 "HassockSee$Sights" "felt" "[I" ∈ lw_tbl := List.mem_append_right _ (List.mem_append_left _ (List.mem_of_getElem? (i := 155) rfl))
set_option maxRecDepth 100000 in
theorem tw_88 : Cond.fieldLink RX4 15 "HassockSee$Sights" "sundays" "[I" ∈ lw_tbl := List.mem_append_right _ (List.mem_append_left _ (List.mem_of_getElem? (i := 154) rfl))
set_option maxRecDepth 100000 in
theorem tw_89 : Cond.fieldLink RX4 9 "HassockSee$Sights" "count" "I" ∈ lw_tbl := List.mem_append_right _ (List.mem_append_left _ (List.mem_of_getElem? (i := 152) rfl))
set_option maxRecDepth 100000 in
theorem tw_90 : Cond.methodLink RX4 3 objectInit ∈ lw_tbl := List.mem_append_right _ (List.mem_append_left _ (List.mem_of_getElem? (i := 151) rfl))
set_option maxRecDepth 100000 in
theorem tw_91 : Cond.code yX4_init cX4_init 1 none ∈ lw_tbl := List.mem_append_right _ (List.mem_append_left _ (List.mem_of_getElem? (i := 150) rfl))
set_option maxRecDepth 100000 in
theorem tw_92 : Cond.instanceMethod yX4_init ∈ lw_tbl := List.mem_append_right _ (List.mem_append_left _ (List.mem_of_getElem? (i := 149) rfl))
set_option maxRecDepth 100000 in
theorem tw_93 : Cond.code yX5_findMove cX5_findMove 5 (some .int) ∈ lw_tbl := List.mem_append_right _ (List.mem_append_left _ (List.mem_of_getElem? (i := 141) rfl))
set_option maxRecDepth 100000 in
theorem lt_wsX8_init_r4 : ∀ w ∈ wsX8_init_r4, w ∈ lw_tbl := (List.forall_mem_cons.mpr ⟨tw_93, (List.forall_mem_cons.mpr ⟨tw_92, (List.forall_mem_cons.mpr ⟨tw_91, (List.forall_mem_cons.mpr ⟨tw_90, (List.forall_mem_cons.mpr ⟨tw_89, (List.forall_mem_cons.mpr ⟨tw_88, (List.forall_mem_cons.mpr ⟨tw_87, (List.forall_mem_cons.mpr ⟨tw_86, (List.forall_mem_cons.mpr ⟨tw_85, (List.forall_mem_cons.mpr ⟨tw_84, (List.forall_mem_cons.mpr ⟨tw_83, (List.forall_mem_cons.mpr ⟨tw_82, (List.forall_mem_cons.mpr ⟨tw_81, (List.forall_mem_cons.mpr ⟨tw_80, (List.forall_mem_cons.mpr ⟨tw_79, (List.forall_mem_cons.mpr ⟨tw_78, (List.forall_mem_cons.mpr ⟨tw_77, (List.forall_mem_cons.mpr ⟨tw_76, (List.forall_mem_cons.mpr ⟨tw_75, (List.forall_mem_cons.mpr ⟨tw_74, (List.forall_mem_cons.mpr ⟨tw_73, (fun _ h => absurd h List.not_mem_nil)⟩)⟩)⟩)⟩)⟩)⟩)⟩)⟩)⟩)⟩)⟩)⟩)⟩)⟩)⟩)⟩)⟩)⟩)⟩)⟩)⟩)
set_option maxRecDepth 100000 in
theorem lt_wsX10 : ∀ w ∈ wsX10, w ∈ lw_tbl := sub_r _ [100, 102, 104, 106, 108, 110] rfl
set_option maxRecDepth 100000 in
theorem lt_wsX80 : ∀ w ∈ wsX80, w ∈ lw_tbl := sub_r _ [276, 278, 280, 282, 284, 286, 288, 290, 292, 294] rfl
set_option maxRecDepth 100000 in
theorem lt_wsX30 : ∀ w ∈ wsX30, w ∈ lw_tbl := sub_r _ [124, 126] rfl
set_option maxRecDepth 100000 in
theorem lt_wsX70 : ∀ w ∈ wsX70, w ∈ lw_tbl := sub_r _ [147, 149, 151, 153, 155, 157] rfl
set_option maxRecDepth 100000 in
theorem lt_wsX00 : ∀ w ∈ wsX00, w ∈ lw_tbl := sub_r _ [175, 177, 179, 181, 183, 185, 187] rfl
set_option maxRecDepth 100000 in
theorem lt_wsX50 : ∀ w ∈ wsX50, w ∈ lw_tbl := sub_r _ [201] rfl
set_option maxRecDepth 100000 in
theorem lt_wsX40 : ∀ w ∈ wsX40, w ∈ lw_tbl := sub_r _ [214, 216, 218] rfl
set_option maxRecDepth 100000 in
theorem lt_wsX60 : ∀ w ∈ wsX60, w ∈ lw_tbl := sub_r _ [235, 237, 239, 241, 243] rfl
set_option maxRecDepth 100000 in
theorem lt_wsX20 : ∀ w ∈ wsX20, w ∈ lw_tbl := sub_r _ [259, 261, 263] rfl
set_option maxRecDepth 100000 in
theorem lt_wsX8_init : ∀ w ∈ wsX8_init, w ∈ lw_tbl := (List.forall_mem_cons.mpr ⟨tw_0, (List.forall_mem_append.mpr ⟨(List.forall_mem_append.mpr ⟨(List.forall_mem_append.mpr ⟨(List.forall_mem_append.mpr ⟨(List.forall_mem_append.mpr ⟨(List.forall_mem_append.mpr ⟨(List.forall_mem_append.mpr ⟨(List.forall_mem_append.mpr ⟨(List.forall_mem_append.mpr ⟨(List.forall_mem_append.mpr ⟨lt_wsX8_init_r1, (List.forall_mem_append.mpr ⟨lt_wsX8_init_r2, (List.forall_mem_append.mpr ⟨lt_wsX8_init_r3, lt_wsX8_init_r4⟩)⟩)⟩), lt_wsX10⟩), lt_wsX80⟩), lt_wsX30⟩), lt_wsX70⟩), lt_wsX00⟩), lt_wsX50⟩), lt_wsX40⟩), lt_wsX60⟩), lt_wsX20⟩)⟩)
set_option maxRecDepth 100000 in
theorem tw_94 : Cond.code yX9_init cX9_init 2 none ∈ lw_tbl := List.mem_append_right _ (List.mem_append_right _ (List.mem_append_right _ (List.mem_append_left _ (List.mem_of_getElem? (i := 133) rfl))))
set_option maxRecDepth 100000 in
theorem tw_95 : Cond.fieldLink RX9 66 "HassockSeeModel" "chest" "I" ∈ lw_tbl := List.mem_append_right _ (List.mem_append_right _ (List.mem_append_right _ (List.mem_append_left _ (List.mem_of_getElem? (i := 139) rfl))))
set_option maxRecDepth 100000 in
theorem tw_96 : Cond.fieldLink RX9 62 "HassockSeeModel" "present" "I" ∈ lw_tbl := List.mem_append_right _ (List.mem_append_right _ (List.mem_append_right _ (List.mem_append_left _ (List.mem_of_getElem? (i := 135) rfl))))
set_option maxRecDepth 100000 in
theorem tw_97 : Cond.fieldLink RX9 59 "HassockSeeModel" "isKept" "[Z" ∈ lw_tbl := List.mem_append_right _ (List.mem_append_right _ (List.mem_append_right _ (List.mem_append_left _ (List.mem_of_getElem? (i := 162) rfl))))
set_option maxRecDepth 100000 in
theorem tw_98 : Cond.fieldLink RX9 56 "HassockSeeModel" "kept" "[I" ∈ lw_tbl := List.mem_append_right _ (List.mem_append_right _ (List.mem_append_right _ (List.mem_append_left _ (List.mem_of_getElem? (i := 161) rfl))))
set_option maxRecDepth 100000 in
theorem tw_99 : Cond.fieldLink RX9 53 "HassockSeeModel" "wins" "[Z" ∈ lw_tbl := List.mem_append_right _ (List.mem_append_right _ (List.mem_append_right _ (List.mem_append_left _ (List.mem_of_getElem? (i := 160) rfl))))
set_option maxRecDepth 100000 in
theorem tw_100 : Cond.fieldLink RX9 50 "HassockSeeModel" "byWool" "[I" ∈ lw_tbl := List.mem_append_right _ (List.mem_append_right _ (List.mem_append_right _ (List.mem_append_left _ (List.mem_of_getElem? (i := 159) rfl))))
set_option maxRecDepth 100000 in
theorem tw_101 : Cond.fieldLink RX9 46 "HassockSeeModel" "covers" "[Z" ∈ lw_tbl := List.mem_append_right _ (List.mem_append_right _ (List.mem_append_right _ (List.mem_append_left _ (List.mem_of_getElem? (i := 158) rfl))))
set_option maxRecDepth 100000 in
theorem tw_102 : Cond.arrayClass .boolean ∈ lw_tbl := List.mem_append_right _ (List.mem_append_right _ (List.mem_append_right _ (List.mem_append_left _ (List.mem_of_getElem? (i := 226) rfl))))
set_option maxRecDepth 100000 in
theorem tw_103 : Cond.fieldLink RX9 43 "HassockSeeModel" "groups" "[I" ∈ lw_tbl := List.mem_append_right _ (List.mem_append_right _ (List.mem_append_right _ (List.mem_append_left _ (List.mem_of_getElem? (i := 157) rfl))))
set_option maxRecDepth 100000 in
theorem tw_104 : Cond.fieldLink RX9 40 "HassockSeeModel" "rows" "[I" ∈ lw_tbl := List.mem_append_right _ (List.mem_append_right _ (List.mem_append_right _ (List.mem_append_left _ (List.mem_of_getElem? (i := 156) rfl))))
set_option maxRecDepth 100000 in
theorem tw_105 : Cond.fieldLink RX9 37 "HassockSeeModel" "had" "[I" ∈ lw_tbl := List.mem_append_right _ (List.mem_append_right _ (List.mem_append_right _ (List.mem_append_left _ (List.mem_of_getElem? (i := 151) rfl))))
set_option maxRecDepth 100000 in
theorem tw_106 : Cond.fieldLink RX9 34 "HassockSeeModel" "much" "[I" ∈ lw_tbl := List.mem_append_right _ (List.mem_append_right _ (List.mem_append_right _ (List.mem_append_left _ (List.mem_of_getElem? (i := 148) rfl))))
set_option maxRecDepth 100000 in
theorem tw_107 : Cond.fieldLink RX9 31 "HassockSeeModel" "which" "[I" ∈ lw_tbl := List.mem_append_right _ (List.mem_append_right _ (List.mem_append_right _ (List.mem_append_left _ (List.mem_of_getElem? (i := 147) rfl))))
set_option maxRecDepth 100000 in
theorem tw_108 : Cond.fieldLink RX9 28 "HassockSeeModel" "act" "[I" ∈ lw_tbl := List.mem_append_right _ (List.mem_append_right _ (List.mem_append_right _ (List.mem_append_left _ (List.mem_of_getElem? (i := 146) rfl))))
set_option maxRecDepth 100000 in
theorem tw_109 : Cond.fieldLink RX9 25 "HassockSeeModel" "pad" "[I" ∈ lw_tbl := List.mem_append_right _ (List.mem_append_right _ (List.mem_append_right _ (List.mem_append_left _ (List.mem_of_getElem? (i := 144) rfl))))
set_option maxRecDepth 100000 in
theorem tw_110 : Cond.fieldLink RX9 22 "HassockSeeModel" "sightWool" "[I" ∈ lw_tbl := List.mem_append_right _ (List.mem_append_right _ (List.mem_append_right _ (List.mem_append_left _ (List.mem_of_getElem? (i := 142) rfl))))
set_option maxRecDepth 100000 in
theorem tw_111 : Cond.fieldLink RX9 19 "HassockSeeModel" "sightSundays" "[I" ∈ lw_tbl := List.mem_append_right _ (List.mem_append_right _ (List.mem_append_right _ (List.mem_append_left _ (List.mem_of_getElem? (i := 141) rfl))))
set_option maxRecDepth 100000 in
theorem tw_112 : Cond.fieldLink RX9 16 "HassockSeeModel" "place" "[I" ∈ lw_tbl := List.mem_append_right _ (List.mem_append_right _ (List.mem_append_right _ (List.mem_append_left _ (List.mem_of_getElem? (i := 138) rfl))))
set_option maxRecDepth 100000 in
theorem tw_113 : Cond.fieldLink RX9 13 "HassockSeeModel" "stitches" "[I" ∈ lw_tbl := List.mem_append_right _ (List.mem_append_right _ (List.mem_append_right _ (List.mem_append_left _ (List.mem_of_getElem? (i := 137) rfl))))
set_option maxRecDepth 100000 in
theorem tw_114 : Cond.fieldLink RX9 7 "HassockSeeModel" "wool" "[I" ∈ lw_tbl := List.mem_append_right _ (List.mem_append_right _ (List.mem_append_right _ (List.mem_append_left _ (List.mem_of_getElem? (i := 136) rfl))))
set_option maxRecDepth 100000 in
theorem tw_115 : Cond.methodLink RX9 1 objectInit ∈ lw_tbl := List.mem_append_right _ (List.mem_append_right _ (List.mem_append_right _ (List.mem_append_left _ (List.mem_of_getElem? (i := 134) rfl))))
set_option maxRecDepth 100000 in
theorem lt_wsX90 : ∀ w ∈ wsX90, w ∈ lw_tbl := sub_r _ [703, 705, 707, 709, 711, 713, 715, 717, 719, 721, 723, 725, 727, 729, 731, 733, 735, 737, 739, 741, 743, 745, 747, 749, 751, 753, 755, 757, 759, 761] rfl
set_option maxRecDepth 100000 in
theorem lt_wsX9_init : ∀ w ∈ wsX9_init, w ∈ lw_tbl := (List.forall_mem_cons.mpr ⟨tw_94, (List.forall_mem_append.mpr ⟨(List.forall_mem_cons.mpr ⟨tw_115, (List.forall_mem_cons.mpr ⟨tw_23, (List.forall_mem_cons.mpr ⟨tw_22, (List.forall_mem_cons.mpr ⟨tw_28, (List.forall_mem_cons.mpr ⟨tw_114, (List.forall_mem_cons.mpr ⟨tw_113, (List.forall_mem_cons.mpr ⟨tw_112, (List.forall_mem_cons.mpr ⟨tw_111, (List.forall_mem_cons.mpr ⟨tw_110, (List.forall_mem_cons.mpr ⟨tw_109, (List.forall_mem_cons.mpr ⟨tw_108, (List.forall_mem_cons.mpr ⟨tw_107, (List.forall_mem_cons.mpr ⟨tw_106, (List.forall_mem_cons.mpr ⟨tw_105, (List.forall_mem_cons.mpr ⟨tw_104, (List.forall_mem_cons.mpr ⟨tw_103, (List.forall_mem_cons.mpr ⟨tw_102, (List.forall_mem_cons.mpr ⟨tw_101, (List.forall_mem_cons.mpr ⟨tw_100, (List.forall_mem_cons.mpr ⟨tw_99, (List.forall_mem_cons.mpr ⟨tw_98, (List.forall_mem_cons.mpr ⟨tw_97, (List.forall_mem_cons.mpr ⟨tw_96, (List.forall_mem_cons.mpr ⟨tw_95, (fun _ h => absurd h List.not_mem_nil)⟩)⟩)⟩)⟩)⟩)⟩)⟩)⟩)⟩)⟩)⟩)⟩)⟩)⟩)⟩)⟩)⟩)⟩)⟩)⟩)⟩)⟩)⟩)⟩), lt_wsX90⟩)⟩)
set_option maxRecDepth 100000 in
theorem tw_116 : Cond.code yX8_hassock cX8_hassock 4 (some .int) ∈ lw_tbl := List.mem_append_right _ (List.mem_append_right _ (List.mem_append_left _ (List.mem_of_getElem? (i := 2) rfl)))
set_option maxRecDepth 100000 in
theorem tw_117 : Cond.code yJ6_bitCount_0f7a4 cJ6_bitCount_0f7a4 1 (some .int) ∈ lw_tbl := List.mem_append_right _ (List.mem_append_right _ (List.mem_append_left _ (List.mem_of_getElem? (i := 19) rfl)))
set_option maxRecDepth 100000 in
theorem tw_118 : Cond.initialized RJ6 ∈ lw_tbl := List.mem_append_right _ (List.mem_append_left _ (List.mem_of_getElem? (i := 11) rfl))
set_option maxRecDepth 100000 in
theorem tw_119 : Cond.static yJ6_bitCount_0f7a4 ∈ lw_tbl := List.mem_append_right _ (List.mem_append_right _ (List.mem_append_left _ (List.mem_of_getElem? (i := 18) rfl)))
set_option maxRecDepth 100000 in
theorem tw_120 : Cond.methodLink RX1 39 yJ6_bitCount_0f7a4 ∈ lw_tbl := List.mem_append_right _ (List.mem_append_right _ (List.mem_append_left _ (List.mem_of_getElem? (i := 17) rfl)))
set_option maxRecDepth 100000 in
theorem tw_121 : Cond.code yX1_howMany cX1_howMany 1 (some .int) ∈ lw_tbl := List.mem_append_right _ (List.mem_append_right _ (List.mem_append_left _ (List.mem_of_getElem? (i := 16) rfl)))
set_option maxRecDepth 100000 in
theorem tw_122 : Cond.selects RX1 yX1_howMany yX1_howMany ∈ lw_tbl := List.mem_append_right _ (List.mem_append_right _ (List.mem_append_left _ (List.mem_of_getElem? (i := 15) rfl)))
set_option maxRecDepth 100000 in
theorem tw_123 : Cond.instanceMethod yX1_howMany ∈ lw_tbl := List.mem_append_right _ (List.mem_append_right _ (List.mem_append_left _ (List.mem_of_getElem? (i := 14) rfl)))
set_option maxRecDepth 100000 in
theorem tw_124 : Cond.methodLink RX8 83 yX1_howMany ∈ lw_tbl := List.mem_append_right _ (List.mem_append_right _ (List.mem_append_left _ (List.mem_of_getElem? (i := 13) rfl)))
set_option maxRecDepth 100000 in
theorem tw_125 : Cond.code yX1_bring cX1_bring 4 none ∈ lw_tbl := List.mem_append_right _ (List.mem_append_right _ (List.mem_append_left _ (List.mem_of_getElem? (i := 12) rfl)))
set_option maxRecDepth 100000 in
theorem tw_126 : Cond.selects RX1 yX1_bring yX1_bring ∈ lw_tbl := List.mem_append_right _ (List.mem_append_right _ (List.mem_append_left _ (List.mem_of_getElem? (i := 11) rfl)))
set_option maxRecDepth 100000 in
theorem tw_127 : Cond.instanceMethod yX1_bring ∈ lw_tbl := List.mem_append_right _ (List.mem_append_right _ (List.mem_append_left _ (List.mem_of_getElem? (i := 10) rfl)))
set_option maxRecDepth 100000 in
theorem tw_128 : Cond.methodLink RX8 79 yX1_bring ∈ lw_tbl := List.mem_append_right _ (List.mem_append_right _ (List.mem_append_left _ (List.mem_of_getElem? (i := 9) rfl)))
set_option maxRecDepth 100000 in
theorem tw_129 : Cond.code yX8_isWithin cX8_isWithin 3 (some .boolean) ∈ lw_tbl := List.mem_append_right _ (List.mem_append_right _ (List.mem_append_left _ (List.mem_of_getElem? (i := 8) rfl)))
set_option maxRecDepth 100000 in
theorem tw_130 : Cond.static yX8_isWithin ∈ lw_tbl := List.mem_append_right _ (List.mem_append_right _ (List.mem_append_left _ (List.mem_of_getElem? (i := 7) rfl)))
set_option maxRecDepth 100000 in
theorem tw_131 : Cond.methodLink RX8 75 yX8_isWithin ∈ lw_tbl := List.mem_append_right _ (List.mem_append_right _ (List.mem_append_left _ (List.mem_of_getElem? (i := 6) rfl)))
set_option maxRecDepth 100000 in
theorem tw_132 : Cond.code yX8_isHassock cX8_isHassock 1 (some .boolean) ∈ lw_tbl := List.mem_append_right _ (List.mem_append_right _ (List.mem_append_left _ (List.mem_of_getElem? (i := 5) rfl)))
set_option maxRecDepth 100000 in
theorem tw_133 : Cond.initialized RX8 ∈ lw_tbl := List.mem_append_right _ (List.mem_append_left _ (List.mem_of_getElem? (i := 1) rfl))
set_option maxRecDepth 100000 in
theorem tw_134 : Cond.static yX8_isHassock ∈ lw_tbl := List.mem_append_right _ (List.mem_append_right _ (List.mem_append_left _ (List.mem_of_getElem? (i := 4) rfl)))
set_option maxRecDepth 100000 in
theorem tw_135 : Cond.methodLink RX8 71 yX8_isHassock ∈ lw_tbl := List.mem_append_right _ (List.mem_append_right _ (List.mem_append_left _ (List.mem_of_getElem? (i := 3) rfl)))
set_option maxRecDepth 100000 in
theorem lt_wsX8_hassock_r1 : ∀ w ∈ wsX8_hassock_r1, w ∈ lw_tbl := (List.forall_mem_cons.mpr ⟨tw_18, (List.forall_mem_cons.mpr ⟨tw_135, (List.forall_mem_cons.mpr ⟨tw_134, (List.forall_mem_cons.mpr ⟨tw_133, (List.forall_mem_cons.mpr ⟨tw_132, (List.forall_mem_cons.mpr ⟨tw_131, (List.forall_mem_cons.mpr ⟨tw_130, (List.forall_mem_cons.mpr ⟨tw_129, (List.forall_mem_cons.mpr ⟨tw_128, (List.forall_mem_cons.mpr ⟨tw_127, (List.forall_mem_cons.mpr ⟨tw_126, (List.forall_mem_cons.mpr ⟨tw_19, (List.forall_mem_cons.mpr ⟨tw_125, (List.forall_mem_cons.mpr ⟨tw_31, (List.forall_mem_cons.mpr ⟨tw_27, (List.forall_mem_cons.mpr ⟨tw_26, (List.forall_mem_cons.mpr ⟨tw_124, (List.forall_mem_cons.mpr ⟨tw_123, (List.forall_mem_cons.mpr ⟨tw_122, (List.forall_mem_cons.mpr ⟨tw_121, (List.forall_mem_cons.mpr ⟨tw_120, (List.forall_mem_cons.mpr ⟨tw_119, (List.forall_mem_cons.mpr ⟨tw_118, (List.forall_mem_cons.mpr ⟨tw_117, (fun _ h => absurd h List.not_mem_nil)⟩)⟩)⟩)⟩)⟩)⟩)⟩)⟩)⟩)⟩)⟩)⟩)⟩)⟩)⟩)⟩)⟩)⟩)⟩)⟩)⟩)⟩)⟩)⟩)
set_option maxRecDepth 100000 in
theorem tw_136 : Cond.constant RJ6 267 (252645135) ∈ lw_tbl := List.mem_append_right _ (List.mem_append_right _ (List.mem_append_left _ (List.mem_of_getElem? (i := 22) rfl)))
set_option maxRecDepth 100000 in
theorem tw_137 : Cond.constant RJ6 266 (858993459) ∈ lw_tbl := List.mem_append_right _ (List.mem_append_right _ (List.mem_append_left _ (List.mem_of_getElem? (i := 21) rfl)))
set_option maxRecDepth 100000 in
theorem tw_138 : Cond.constant RJ6 265 (1431655765) ∈ lw_tbl := List.mem_append_right _ (List.mem_append_right _ (List.mem_append_left _ (List.mem_of_getElem? (i := 20) rfl)))
set_option maxRecDepth 100000 in
theorem lt_wsX8_hassock_r2 : ∀ w ∈ wsX8_hassock_r2, w ∈ lw_tbl := (List.forall_mem_cons.mpr ⟨tw_138, (List.forall_mem_cons.mpr ⟨tw_137, (List.forall_mem_cons.mpr ⟨tw_136, (fun _ h => absurd h List.not_mem_nil)⟩)⟩)⟩)
set_option maxRecDepth 100000 in
theorem lt_wsX8_hassock : ∀ w ∈ wsX8_hassock, w ∈ lw_tbl := (List.forall_mem_cons.mpr ⟨tw_116, (List.forall_mem_append.mpr ⟨(List.forall_mem_append.mpr ⟨(List.forall_mem_append.mpr ⟨lt_wsX8_hassock_r1, lt_wsX8_hassock_r2⟩), lt_wsX80⟩), lt_wsX10⟩)⟩)
set_option maxRecDepth 100000 in
theorem tw_139 : Cond.selects RX8 yX8_hassock yX8_hassock ∈ lw_tbl := List.mem_append_right _ (List.mem_append_right _ (List.mem_append_left _ (List.mem_of_getElem? (i := 1) rfl)))
set_option maxRecDepth 100000 in
theorem tw_140 : Cond.instanceMethod yX8_hassock ∈ lw_tbl := List.mem_append_right _ (List.mem_append_right _ (List.mem_append_left _ (List.mem_of_getElem? (i := 0) rfl)))
set_option maxRecDepth 100000 in
theorem tw_141 : Cond.methodLink RL 13 yX8_hassock ∈ lw_tbl := List.mem_append_right _ (List.mem_append_left _ (List.mem_of_getElem? (i := 239) rfl))
set_option maxRecDepth 100000 in
theorem tw_142 : Cond.code yX9_hassock cX9_hassock 4 (some .int) ∈ lw_tbl := List.mem_append_right _ (List.mem_append_right _ (List.mem_append_right _ (List.mem_append_left _ (List.mem_of_getElem? (i := 230) rfl))))
set_option maxRecDepth 100000 in
theorem tw_143 : Cond.code yX9_ones cX9_ones 3 (some .int) ∈ lw_tbl := List.mem_append_right _ (List.mem_append_right _ (List.mem_append_right _ (List.mem_append_right _ (List.mem_append_left _ (List.mem_of_getElem? (i := 2) rfl)))))
set_option maxRecDepth 100000 in
theorem tw_144 : Cond.static yX9_ones ∈ lw_tbl := List.mem_append_right _ (List.mem_append_right _ (List.mem_append_right _ (List.mem_append_right _ (List.mem_append_left _ (List.mem_of_getElem? (i := 1) rfl)))))
set_option maxRecDepth 100000 in
theorem tw_145 : Cond.methodLink RX9 83 yX9_ones ∈ lw_tbl := List.mem_append_right _ (List.mem_append_right _ (List.mem_append_right _ (List.mem_append_right _ (List.mem_append_left _ (List.mem_of_getElem? (i := 0) rfl)))))
set_option maxRecDepth 100000 in
theorem tw_146 : Cond.code yX9_in cX9_in 6 (some .boolean) ∈ lw_tbl := List.mem_append_right _ (List.mem_append_right _ (List.mem_append_right _ (List.mem_append_left _ (List.mem_of_getElem? (i := 237) rfl))))
set_option maxRecDepth 100000 in
theorem tw_147 : Cond.static yX9_in ∈ lw_tbl := List.mem_append_right _ (List.mem_append_right _ (List.mem_append_right _ (List.mem_append_left _ (List.mem_of_getElem? (i := 236) rfl))))
set_option maxRecDepth 100000 in
theorem tw_148 : Cond.methodLink RX9 71 yX9_in ∈ lw_tbl := List.mem_append_right _ (List.mem_append_right _ (List.mem_append_right _ (List.mem_append_left _ (List.mem_of_getElem? (i := 235) rfl))))
set_option maxRecDepth 100000 in
theorem tw_149 : Cond.constantLong RX9 69 (9) ∈ lw_tbl := List.mem_append_right _ (List.mem_append_right _ (List.mem_append_right _ (List.mem_append_left _ (List.mem_of_getElem? (i := 234) rfl))))
set_option maxRecDepth 100000 in
theorem tw_150 : Cond.code yX9_isHassock cX9_isHassock 1 (some .boolean) ∈ lw_tbl := List.mem_append_right _ (List.mem_append_right _ (List.mem_append_right _ (List.mem_append_left _ (List.mem_of_getElem? (i := 233) rfl))))
set_option maxRecDepth 100000 in
theorem tw_151 : Cond.initialized RX9 ∈ lw_tbl := List.mem_append_right _ (List.mem_append_left _ (List.mem_of_getElem? (i := 10) rfl))
set_option maxRecDepth 100000 in
theorem tw_152 : Cond.static yX9_isHassock ∈ lw_tbl := List.mem_append_right _ (List.mem_append_right _ (List.mem_append_right _ (List.mem_append_left _ (List.mem_of_getElem? (i := 232) rfl))))
set_option maxRecDepth 100000 in
theorem tw_153 : Cond.methodLink RX9 75 yX9_isHassock ∈ lw_tbl := List.mem_append_right _ (List.mem_append_right _ (List.mem_append_right _ (List.mem_append_left _ (List.mem_of_getElem? (i := 231) rfl))))
set_option maxRecDepth 100000 in
theorem tw_154 : Cond.constantLong RX9 81 (255) ∈ lw_tbl := List.mem_append_right _ (List.mem_append_right _ (List.mem_append_right _ (List.mem_append_left _ (List.mem_of_getElem? (i := 239) rfl))))
set_option maxRecDepth 100000 in
theorem tw_155 : Cond.constantLong RX9 79 (99) ∈ lw_tbl := List.mem_append_right _ (List.mem_append_right _ (List.mem_append_right _ (List.mem_append_left _ (List.mem_of_getElem? (i := 238) rfl))))
set_option maxRecDepth 100000 in
theorem lt_wsX9_hassock : ∀ w ∈ wsX9_hassock, w ∈ lw_tbl := (List.forall_mem_cons.mpr ⟨tw_142, (List.forall_mem_append.mpr ⟨(List.forall_mem_cons.mpr ⟨tw_155, (List.forall_mem_cons.mpr ⟨tw_154, (List.forall_mem_cons.mpr ⟨tw_96, (List.forall_mem_cons.mpr ⟨tw_114, (List.forall_mem_cons.mpr ⟨tw_113, (List.forall_mem_cons.mpr ⟨tw_153, (List.forall_mem_cons.mpr ⟨tw_152, (List.forall_mem_cons.mpr ⟨tw_151, (List.forall_mem_cons.mpr ⟨tw_150, (List.forall_mem_cons.mpr ⟨tw_149, (List.forall_mem_cons.mpr ⟨tw_148, (List.forall_mem_cons.mpr ⟨tw_147, (List.forall_mem_cons.mpr ⟨tw_146, (List.forall_mem_cons.mpr ⟨tw_145, (List.forall_mem_cons.mpr ⟨tw_144, (List.forall_mem_cons.mpr ⟨tw_143, (fun _ h => absurd h List.not_mem_nil)⟩)⟩)⟩)⟩)⟩)⟩)⟩)⟩)⟩)⟩)⟩)⟩)⟩)⟩)⟩)⟩), lt_wsX90⟩)⟩)
set_option maxRecDepth 100000 in
theorem tw_156 : Cond.selects RX9 yX9_hassock yX9_hassock ∈ lw_tbl := List.mem_append_right _ (List.mem_append_right _ (List.mem_append_right _ (List.mem_append_left _ (List.mem_of_getElem? (i := 229) rfl))))
set_option maxRecDepth 100000 in
theorem tw_157 : Cond.instanceMethod yX9_hassock ∈ lw_tbl := List.mem_append_right _ (List.mem_append_right _ (List.mem_append_right _ (List.mem_append_left _ (List.mem_of_getElem? (i := 228) rfl))))
set_option maxRecDepth 100000 in
theorem tw_158 : Cond.methodLink RL 17 yX9_hassock ∈ lw_tbl := List.mem_append_right _ (List.mem_append_right _ (List.mem_append_right _ (List.mem_append_left _ (List.mem_of_getElem? (i := 227) rfl))))
set_option maxRecDepth 100000 in
theorem tw_159 : Cond.code yX8_gone cX8_gone 2 (some .int) ∈ lw_tbl := List.mem_append_right _ (List.mem_append_right _ (List.mem_append_left _ (List.mem_of_getElem? (i := 26) rfl)))
set_option maxRecDepth 100000 in
theorem tw_160 : Cond.code yX1_takeAway cX1_takeAway 2 none ∈ lw_tbl := List.mem_append_right _ (List.mem_append_right _ (List.mem_append_left _ (List.mem_of_getElem? (i := 38) rfl)))
set_option maxRecDepth 100000 in
theorem tw_161 : Cond.selects RX1 yX1_takeAway yX1_takeAway ∈ lw_tbl := List.mem_append_right _ (List.mem_append_right _ (List.mem_append_left _ (List.mem_of_getElem? (i := 37) rfl)))
set_option maxRecDepth 100000 in
theorem tw_162 : Cond.instanceMethod yX1_takeAway ∈ lw_tbl := List.mem_append_right _ (List.mem_append_right _ (List.mem_append_left _ (List.mem_of_getElem? (i := 36) rfl)))
set_option maxRecDepth 100000 in
theorem tw_163 : Cond.methodLink RX8 90 yX1_takeAway ∈ lw_tbl := List.mem_append_right _ (List.mem_append_right _ (List.mem_append_left _ (List.mem_of_getElem? (i := 35) rfl)))
set_option maxRecDepth 100000 in
theorem tw_164 : Cond.code yX8_isIn cX8_isIn 2 (some .boolean) ∈ lw_tbl := List.mem_append_right _ (List.mem_append_right _ (List.mem_append_left _ (List.mem_of_getElem? (i := 34) rfl)))
set_option maxRecDepth 100000 in
theorem tw_165 : Cond.static yX8_isIn ∈ lw_tbl := List.mem_append_right _ (List.mem_append_right _ (List.mem_append_left _ (List.mem_of_getElem? (i := 33) rfl)))
set_option maxRecDepth 100000 in
theorem tw_166 : Cond.code yX1_isThere cX1_isThere 2 (some .boolean) ∈ lw_tbl := List.mem_append_right _ (List.mem_append_right _ (List.mem_append_left _ (List.mem_of_getElem? (i := 30) rfl)))
set_option maxRecDepth 100000 in
theorem tw_167 : Cond.selects RX1 yX1_isThere yX1_isThere ∈ lw_tbl := List.mem_append_right _ (List.mem_append_right _ (List.mem_append_left _ (List.mem_of_getElem? (i := 29) rfl)))
set_option maxRecDepth 100000 in
theorem tw_168 : Cond.instanceMethod yX1_isThere ∈ lw_tbl := List.mem_append_right _ (List.mem_append_right _ (List.mem_append_left _ (List.mem_of_getElem? (i := 28) rfl)))
set_option maxRecDepth 100000 in
theorem tw_169 : Cond.methodLink RX8 87 yX1_isThere ∈ lw_tbl := List.mem_append_right _ (List.mem_append_right _ (List.mem_append_left _ (List.mem_of_getElem? (i := 27) rfl)))
set_option maxRecDepth 100000 in
theorem lt_wsX8_gone_r1 : ∀ w ∈ wsX8_gone_r1, w ∈ lw_tbl := (List.forall_mem_cons.mpr ⟨tw_18, (List.forall_mem_cons.mpr ⟨tw_169, (List.forall_mem_cons.mpr ⟨tw_168, (List.forall_mem_cons.mpr ⟨tw_167, (List.forall_mem_cons.mpr ⟨tw_19, (List.forall_mem_cons.mpr ⟨tw_166, (List.forall_mem_cons.mpr ⟨tw_31, (List.forall_mem_cons.mpr ⟨tw_134, (List.forall_mem_cons.mpr ⟨tw_133, (List.forall_mem_cons.mpr ⟨tw_132, (List.forall_mem_cons.mpr ⟨tw_165, (List.forall_mem_cons.mpr ⟨tw_164, (List.forall_mem_cons.mpr ⟨tw_163, (List.forall_mem_cons.mpr ⟨tw_162, (List.forall_mem_cons.mpr ⟨tw_161, (List.forall_mem_cons.mpr ⟨tw_160, (List.forall_mem_cons.mpr ⟨tw_124, (List.forall_mem_cons.mpr ⟨tw_123, (List.forall_mem_cons.mpr ⟨tw_122, (List.forall_mem_cons.mpr ⟨tw_121, (List.forall_mem_cons.mpr ⟨tw_120, (List.forall_mem_cons.mpr ⟨tw_119, (List.forall_mem_cons.mpr ⟨tw_118, (List.forall_mem_cons.mpr ⟨tw_117, (fun _ h => absurd h List.not_mem_nil)⟩)⟩)⟩)⟩)⟩)⟩)⟩)⟩)⟩)⟩)⟩)⟩)⟩)⟩)⟩)⟩)⟩)⟩)⟩)⟩)⟩)⟩)⟩)⟩)
set_option maxRecDepth 100000 in
theorem lt_wsX8_gone_r2 : ∀ w ∈ wsX8_gone_r2, w ∈ lw_tbl := (List.forall_mem_cons.mpr ⟨tw_138, (List.forall_mem_cons.mpr ⟨tw_137, (List.forall_mem_cons.mpr ⟨tw_136, (fun _ h => absurd h List.not_mem_nil)⟩)⟩)⟩)
set_option maxRecDepth 100000 in
theorem lt_wsX8_gone : ∀ w ∈ wsX8_gone, w ∈ lw_tbl := (List.forall_mem_cons.mpr ⟨tw_159, (List.forall_mem_append.mpr ⟨(List.forall_mem_append.mpr ⟨(List.forall_mem_append.mpr ⟨lt_wsX8_gone_r1, lt_wsX8_gone_r2⟩), lt_wsX80⟩), lt_wsX10⟩)⟩)
set_option maxRecDepth 100000 in
theorem tw_170 : Cond.selects RX8 yX8_gone yX8_gone ∈ lw_tbl := List.mem_append_right _ (List.mem_append_right _ (List.mem_append_left _ (List.mem_of_getElem? (i := 25) rfl)))
set_option maxRecDepth 100000 in
theorem tw_171 : Cond.instanceMethod yX8_gone ∈ lw_tbl := List.mem_append_right _ (List.mem_append_right _ (List.mem_append_left _ (List.mem_of_getElem? (i := 24) rfl)))
set_option maxRecDepth 100000 in
theorem tw_172 : Cond.methodLink RL 18 yX8_gone ∈ lw_tbl := List.mem_append_right _ (List.mem_append_right _ (List.mem_append_left _ (List.mem_of_getElem? (i := 23) rfl)))
set_option maxRecDepth 100000 in
theorem tw_173 : Cond.code yX9_gone cX9_gone 2 (some .int) ∈ lw_tbl := List.mem_append_right _ (List.mem_append_right _ (List.mem_append_right _ (List.mem_append_right _ (List.mem_append_left _ (List.mem_of_getElem? (i := 6) rfl)))))
set_option maxRecDepth 100000 in
theorem tw_174 : Cond.code yX9_has cX9_has 2 (some .boolean) ∈ lw_tbl := List.mem_append_right _ (List.mem_append_right _ (List.mem_append_right _ (List.mem_append_right _ (List.mem_append_left _ (List.mem_of_getElem? (i := 9) rfl)))))
set_option maxRecDepth 100000 in
theorem tw_175 : Cond.static yX9_has ∈ lw_tbl := List.mem_append_right _ (List.mem_append_right _ (List.mem_append_right _ (List.mem_append_right _ (List.mem_append_left _ (List.mem_of_getElem? (i := 8) rfl)))))
set_option maxRecDepth 100000 in
theorem tw_176 : Cond.methodLink RX9 87 yX9_has ∈ lw_tbl := List.mem_append_right _ (List.mem_append_right _ (List.mem_append_right _ (List.mem_append_right _ (List.mem_append_left _ (List.mem_of_getElem? (i := 7) rfl)))))
set_option maxRecDepth 100000 in
theorem lt_wsX9_gone : ∀ w ∈ wsX9_gone, w ∈ lw_tbl := (List.forall_mem_cons.mpr ⟨tw_173, (List.forall_mem_append.mpr ⟨(List.forall_mem_cons.mpr ⟨tw_96, (List.forall_mem_cons.mpr ⟨tw_153, (List.forall_mem_cons.mpr ⟨tw_152, (List.forall_mem_cons.mpr ⟨tw_151, (List.forall_mem_cons.mpr ⟨tw_150, (List.forall_mem_cons.mpr ⟨tw_149, (List.forall_mem_cons.mpr ⟨tw_148, (List.forall_mem_cons.mpr ⟨tw_147, (List.forall_mem_cons.mpr ⟨tw_146, (List.forall_mem_cons.mpr ⟨tw_176, (List.forall_mem_cons.mpr ⟨tw_175, (List.forall_mem_cons.mpr ⟨tw_174, (List.forall_mem_cons.mpr ⟨tw_145, (List.forall_mem_cons.mpr ⟨tw_144, (List.forall_mem_cons.mpr ⟨tw_143, (fun _ h => absurd h List.not_mem_nil)⟩)⟩)⟩)⟩)⟩)⟩)⟩)⟩)⟩)⟩)⟩)⟩)⟩)⟩)⟩), lt_wsX90⟩)⟩)
set_option maxRecDepth 100000 in
theorem tw_177 : Cond.selects RX9 yX9_gone yX9_gone ∈ lw_tbl := List.mem_append_right _ (List.mem_append_right _ (List.mem_append_right _ (List.mem_append_right _ (List.mem_append_left _ (List.mem_of_getElem? (i := 5) rfl)))))
set_option maxRecDepth 100000 in
theorem tw_178 : Cond.instanceMethod yX9_gone ∈ lw_tbl := List.mem_append_right _ (List.mem_append_right _ (List.mem_append_right _ (List.mem_append_right _ (List.mem_append_left _ (List.mem_of_getElem? (i := 4) rfl)))))
set_option maxRecDepth 100000 in
theorem tw_179 : Cond.methodLink RL 22 yX9_gone ∈ lw_tbl := List.mem_append_right _ (List.mem_append_right _ (List.mem_append_right _ (List.mem_append_right _ (List.mem_append_left _ (List.mem_of_getElem? (i := 3) rfl)))))
set_option maxRecDepth 100000 in
theorem tw_180 : Cond.code yX8_hair cX8_hair 3 (some .int) ∈ lw_tbl := List.mem_append_right _ (List.mem_append_right _ (List.mem_append_left _ (List.mem_of_getElem? (i := 42) rfl)))
set_option maxRecDepth 100000 in
theorem tw_181 : Cond.fieldLink RX8 94 "HassockSee$Diocese" "hair" "I" ∈ lw_tbl := List.mem_append_right _ (List.mem_append_left _ (List.mem_of_getElem? (i := 31) rfl))
set_option maxRecDepth 100000 in
theorem lt_wsX8_hair : ∀ w ∈ wsX8_hair, w ∈ lw_tbl := (List.forall_mem_cons.mpr ⟨tw_180, (List.forall_mem_append.mpr ⟨(List.forall_mem_append.mpr ⟨(List.forall_mem_cons.mpr ⟨tw_18, (List.forall_mem_cons.mpr ⟨tw_181, (List.forall_mem_cons.mpr ⟨tw_131, (List.forall_mem_cons.mpr ⟨tw_130, (List.forall_mem_cons.mpr ⟨tw_133, (List.forall_mem_cons.mpr ⟨tw_129, (fun _ h => absurd h List.not_mem_nil)⟩)⟩)⟩)⟩)⟩)⟩), lt_wsX80⟩), lt_wsX10⟩)⟩)
set_option maxRecDepth 100000 in
theorem tw_182 : Cond.selects RX8 yX8_hair yX8_hair ∈ lw_tbl := List.mem_append_right _ (List.mem_append_right _ (List.mem_append_left _ (List.mem_of_getElem? (i := 41) rfl)))
set_option maxRecDepth 100000 in
theorem tw_183 : Cond.instanceMethod yX8_hair ∈ lw_tbl := List.mem_append_right _ (List.mem_append_right _ (List.mem_append_left _ (List.mem_of_getElem? (i := 40) rfl)))
set_option maxRecDepth 100000 in
theorem tw_184 : Cond.methodLink RL 23 yX8_hair ∈ lw_tbl := List.mem_append_right _ (List.mem_append_right _ (List.mem_append_left _ (List.mem_of_getElem? (i := 39) rfl)))
set_option maxRecDepth 100000 in
theorem tw_185 : Cond.code yX9_hair cX9_hair 3 (some .int) ∈ lw_tbl := List.mem_append_right _ (List.mem_append_right _ (List.mem_append_right _ (List.mem_append_right _ (List.mem_append_left _ (List.mem_of_getElem? (i := 13) rfl)))))
set_option maxRecDepth 100000 in
theorem tw_186 : Cond.constantLong RX9 91 (999) ∈ lw_tbl := List.mem_append_right _ (List.mem_append_right _ (List.mem_append_right _ (List.mem_append_right _ (List.mem_append_left _ (List.mem_of_getElem? (i := 14) rfl)))))
set_option maxRecDepth 100000 in
theorem lt_wsX9_hair : ∀ w ∈ wsX9_hair, w ∈ lw_tbl := (List.forall_mem_cons.mpr ⟨tw_185, (List.forall_mem_append.mpr ⟨(List.forall_mem_cons.mpr ⟨tw_186, (List.forall_mem_cons.mpr ⟨tw_95, (List.forall_mem_cons.mpr ⟨tw_148, (List.forall_mem_cons.mpr ⟨tw_147, (List.forall_mem_cons.mpr ⟨tw_151, (List.forall_mem_cons.mpr ⟨tw_146, (fun _ h => absurd h List.not_mem_nil)⟩)⟩)⟩)⟩)⟩)⟩), lt_wsX90⟩)⟩)
set_option maxRecDepth 100000 in
theorem tw_187 : Cond.selects RX9 yX9_hair yX9_hair ∈ lw_tbl := List.mem_append_right _ (List.mem_append_right _ (List.mem_append_right _ (List.mem_append_right _ (List.mem_append_left _ (List.mem_of_getElem? (i := 12) rfl)))))
set_option maxRecDepth 100000 in
theorem tw_188 : Cond.instanceMethod yX9_hair ∈ lw_tbl := List.mem_append_right _ (List.mem_append_right _ (List.mem_append_right _ (List.mem_append_right _ (List.mem_append_left _ (List.mem_of_getElem? (i := 11) rfl)))))
set_option maxRecDepth 100000 in
theorem tw_189 : Cond.methodLink RL 26 yX9_hair ∈ lw_tbl := List.mem_append_right _ (List.mem_append_right _ (List.mem_append_right _ (List.mem_append_right _ (List.mem_append_left _ (List.mem_of_getElem? (i := 10) rfl)))))
set_option maxRecDepth 100000 in
theorem tw_190 : Cond.code yX8_swap cX8_swap 3 (some .int) ∈ lw_tbl := List.mem_append_right _ (List.mem_append_right _ (List.mem_append_left _ (List.mem_of_getElem? (i := 46) rfl)))
set_option maxRecDepth 100000 in
theorem tw_191 : Cond.code yX1_changePlaces cX1_changePlaces 4 none ∈ lw_tbl := List.mem_append_right _ (List.mem_append_right _ (List.mem_append_left _ (List.mem_of_getElem? (i := 50) rfl)))
set_option maxRecDepth 100000 in
theorem tw_192 : Cond.selects RX1 yX1_changePlaces yX1_changePlaces ∈ lw_tbl := List.mem_append_right _ (List.mem_append_right _ (List.mem_append_left _ (List.mem_of_getElem? (i := 49) rfl)))
set_option maxRecDepth 100000 in
theorem tw_193 : Cond.instanceMethod yX1_changePlaces ∈ lw_tbl := List.mem_append_right _ (List.mem_append_right _ (List.mem_append_left _ (List.mem_of_getElem? (i := 48) rfl)))
set_option maxRecDepth 100000 in
theorem tw_194 : Cond.methodLink RX8 98 yX1_changePlaces ∈ lw_tbl := List.mem_append_right _ (List.mem_append_right _ (List.mem_append_left _ (List.mem_of_getElem? (i := 47) rfl)))
set_option maxRecDepth 100000 in
theorem tw_195 : Cond.fieldLink RX8 102 "HassockSee$Diocese" "place" "[I" ∈ lw_tbl := List.mem_append_right _ (List.mem_append_left _ (List.mem_of_getElem? (i := 41) rfl))
set_option maxRecDepth 100000 in
theorem lt_wsX8_swap : ∀ w ∈ wsX8_swap, w ∈ lw_tbl := (List.forall_mem_cons.mpr ⟨tw_190, (List.forall_mem_append.mpr ⟨(List.forall_mem_append.mpr ⟨(List.forall_mem_cons.mpr ⟨tw_18, (List.forall_mem_cons.mpr ⟨tw_195, (List.forall_mem_cons.mpr ⟨tw_135, (List.forall_mem_cons.mpr ⟨tw_134, (List.forall_mem_cons.mpr ⟨tw_133, (List.forall_mem_cons.mpr ⟨tw_132, (List.forall_mem_cons.mpr ⟨tw_194, (List.forall_mem_cons.mpr ⟨tw_193, (List.forall_mem_cons.mpr ⟨tw_192, (List.forall_mem_cons.mpr ⟨tw_19, (List.forall_mem_cons.mpr ⟨tw_191, (List.forall_mem_cons.mpr ⟨tw_25, (fun _ h => absurd h List.not_mem_nil)⟩)⟩)⟩)⟩)⟩)⟩)⟩)⟩)⟩)⟩)⟩)⟩), lt_wsX80⟩), lt_wsX10⟩)⟩)
set_option maxRecDepth 100000 in
theorem tw_196 : Cond.selects RX8 yX8_swap yX8_swap ∈ lw_tbl := List.mem_append_right _ (List.mem_append_right _ (List.mem_append_left _ (List.mem_of_getElem? (i := 45) rfl)))
set_option maxRecDepth 100000 in
theorem tw_197 : Cond.instanceMethod yX8_swap ∈ lw_tbl := List.mem_append_right _ (List.mem_append_right _ (List.mem_append_left _ (List.mem_of_getElem? (i := 44) rfl)))
set_option maxRecDepth 100000 in
theorem tw_198 : Cond.methodLink RL 27 yX8_swap ∈ lw_tbl := List.mem_append_right _ (List.mem_append_right _ (List.mem_append_left _ (List.mem_of_getElem? (i := 43) rfl)))
set_option maxRecDepth 100000 in
theorem tw_199 : Cond.code yX9_swap cX9_swap 3 (some .int) ∈ lw_tbl := List.mem_append_right _ (List.mem_append_right _ (List.mem_append_right _ (List.mem_append_right _ (List.mem_append_left _ (List.mem_of_getElem? (i := 18) rfl)))))
set_option maxRecDepth 100000 in
theorem tw_200 : Cond.code yX9_change cX9_change 4 none ∈ lw_tbl := List.mem_append_right _ (List.mem_append_right _ (List.mem_append_right _ (List.mem_append_right _ (List.mem_append_left _ (List.mem_of_getElem? (i := 22) rfl)))))
set_option maxRecDepth 100000 in
theorem tw_201 : Cond.selects RX9 yX9_change yX9_change ∈ lw_tbl := List.mem_append_left _ (List.mem_of_getElem? (i := 22) rfl)
set_option maxRecDepth 100000 in
theorem tw_202 : Cond.instanceMethod yX9_change ∈ lw_tbl := List.mem_append_right _ (List.mem_append_right _ (List.mem_append_right _ (List.mem_append_right _ (List.mem_append_left _ (List.mem_of_getElem? (i := 21) rfl)))))
set_option maxRecDepth 100000 in
theorem tw_203 : Cond.methodLink RX9 93 yX9_change ∈ lw_tbl := List.mem_append_right _ (List.mem_append_right _ (List.mem_append_right _ (List.mem_append_right _ (List.mem_append_left _ (List.mem_of_getElem? (i := 19) rfl)))))
set_option maxRecDepth 100000 in
theorem lt_wsX9_swap : ∀ w ∈ wsX9_swap, w ∈ lw_tbl := (List.forall_mem_cons.mpr ⟨tw_199, (List.forall_mem_append.mpr ⟨(List.forall_mem_cons.mpr ⟨tw_112, (List.forall_mem_cons.mpr ⟨tw_153, (List.forall_mem_cons.mpr ⟨tw_152, (List.forall_mem_cons.mpr ⟨tw_151, (List.forall_mem_cons.mpr ⟨tw_150, (List.forall_mem_cons.mpr ⟨tw_149, (List.forall_mem_cons.mpr ⟨tw_148, (List.forall_mem_cons.mpr ⟨tw_147, (List.forall_mem_cons.mpr ⟨tw_146, (List.forall_mem_cons.mpr ⟨tw_203, (List.forall_mem_cons.mpr ⟨tw_202, (List.forall_mem_cons.mpr ⟨tw_201, (List.forall_mem_cons.mpr ⟨tw_200, (fun _ h => absurd h List.not_mem_nil)⟩)⟩)⟩)⟩)⟩)⟩)⟩)⟩)⟩)⟩)⟩)⟩)⟩), lt_wsX90⟩)⟩)
set_option maxRecDepth 100000 in
theorem tw_204 : Cond.selects RX9 yX9_swap yX9_swap ∈ lw_tbl := List.mem_append_right _ (List.mem_append_right _ (List.mem_append_right _ (List.mem_append_right _ (List.mem_append_left _ (List.mem_of_getElem? (i := 17) rfl)))))
set_option maxRecDepth 100000 in
theorem tw_205 : Cond.instanceMethod yX9_swap ∈ lw_tbl := List.mem_append_right _ (List.mem_append_right _ (List.mem_append_right _ (List.mem_append_right _ (List.mem_append_left _ (List.mem_of_getElem? (i := 16) rfl)))))
set_option maxRecDepth 100000 in
theorem tw_206 : Cond.methodLink RL 31 yX9_swap ∈ lw_tbl := List.mem_append_right _ (List.mem_append_right _ (List.mem_append_right _ (List.mem_append_right _ (List.mem_append_left _ (List.mem_of_getElem? (i := 15) rfl)))))
set_option maxRecDepth 100000 in
theorem tw_207 : Cond.code yX8_say cX8_say 2 (some .int) ∈ lw_tbl := List.mem_append_right _ (List.mem_append_right _ (List.mem_append_left _ (List.mem_of_getElem? (i := 54) rfl)))
set_option maxRecDepth 100000 in
theorem tw_208 : Cond.code yX3_write cX3_write 2 (some .boolean) ∈ lw_tbl := List.mem_append_right _ (List.mem_append_right _ (List.mem_append_left _ (List.mem_of_getElem? (i := 58) rfl)))
set_option maxRecDepth 100000 in
theorem tw_209 : Cond.selects RX3 yX3_write yX3_write ∈ lw_tbl := List.mem_append_right _ (List.mem_append_right _ (List.mem_append_left _ (List.mem_of_getElem? (i := 57) rfl)))
set_option maxRecDepth 100000 in
theorem tw_210 : Cond.instanceMethod yX3_write ∈ lw_tbl := List.mem_append_right _ (List.mem_append_right _ (List.mem_append_left _ (List.mem_of_getElem? (i := 56) rfl)))
set_option maxRecDepth 100000 in
theorem tw_211 : Cond.methodLink RX8 106 yX3_write ∈ lw_tbl := List.mem_append_right _ (List.mem_append_right _ (List.mem_append_left _ (List.mem_of_getElem? (i := 55) rfl)))
set_option maxRecDepth 100000 in
theorem tw_212 : Cond.fieldLink RX8 109 "HassockSee$Pad" "count" "I" ∈ lw_tbl := List.mem_append_right _ (List.mem_append_left _ (List.mem_of_getElem? (i := 64) rfl))
set_option maxRecDepth 100000 in
theorem lt_wsX8_say : ∀ w ∈ wsX8_say, w ∈ lw_tbl := (List.forall_mem_cons.mpr ⟨tw_207, (List.forall_mem_append.mpr ⟨(List.forall_mem_append.mpr ⟨(List.forall_mem_cons.mpr ⟨tw_13, (List.forall_mem_cons.mpr ⟨tw_212, (List.forall_mem_cons.mpr ⟨tw_131, (List.forall_mem_cons.mpr ⟨tw_130, (List.forall_mem_cons.mpr ⟨tw_133, (List.forall_mem_cons.mpr ⟨tw_129, (List.forall_mem_cons.mpr ⟨tw_211, (List.forall_mem_cons.mpr ⟨tw_210, (List.forall_mem_cons.mpr ⟨tw_209, (List.forall_mem_cons.mpr ⟨tw_14, (List.forall_mem_cons.mpr ⟨tw_208, (List.forall_mem_cons.mpr ⟨tw_69, (List.forall_mem_cons.mpr ⟨tw_68, (fun _ h => absurd h List.not_mem_nil)⟩)⟩)⟩)⟩)⟩)⟩)⟩)⟩)⟩)⟩)⟩)⟩)⟩), lt_wsX80⟩), lt_wsX30⟩)⟩)
set_option maxRecDepth 100000 in
theorem tw_213 : Cond.selects RX8 yX8_say yX8_say ∈ lw_tbl := List.mem_append_right _ (List.mem_append_right _ (List.mem_append_left _ (List.mem_of_getElem? (i := 53) rfl)))
set_option maxRecDepth 100000 in
theorem tw_214 : Cond.instanceMethod yX8_say ∈ lw_tbl := List.mem_append_right _ (List.mem_append_right _ (List.mem_append_left _ (List.mem_of_getElem? (i := 52) rfl)))
set_option maxRecDepth 100000 in
theorem tw_215 : Cond.methodLink RL 32 yX8_say ∈ lw_tbl := List.mem_append_right _ (List.mem_append_right _ (List.mem_append_left _ (List.mem_of_getElem? (i := 51) rfl)))
set_option maxRecDepth 100000 in
theorem tw_216 : Cond.code yX9_say cX9_say 2 (some .int) ∈ lw_tbl := List.mem_append_right _ (List.mem_append_right _ (List.mem_append_right _ (List.mem_append_right _ (List.mem_append_left _ (List.mem_of_getElem? (i := 26) rfl)))))
set_option maxRecDepth 100000 in
theorem tw_217 : Cond.fieldLink RX9 101 "HassockSeeModel" "padMany" "I" ∈ lw_tbl := List.mem_append_right _ (List.mem_append_right _ (List.mem_append_right _ (List.mem_append_left _ (List.mem_of_getElem? (i := 145) rfl))))
set_option maxRecDepth 100000 in
theorem tw_218 : Cond.constantLong RX9 99 (126) ∈ lw_tbl := List.mem_append_right _ (List.mem_append_right _ (List.mem_append_right _ (List.mem_append_right _ (List.mem_append_left _ (List.mem_of_getElem? (i := 28) rfl)))))
set_option maxRecDepth 100000 in
theorem tw_219 : Cond.constantLong RX9 97 (33) ∈ lw_tbl := List.mem_append_right _ (List.mem_append_right _ (List.mem_append_right _ (List.mem_append_right _ (List.mem_append_left _ (List.mem_of_getElem? (i := 27) rfl)))))
set_option maxRecDepth 100000 in
theorem lt_wsX9_say : ∀ w ∈ wsX9_say, w ∈ lw_tbl := (List.forall_mem_cons.mpr ⟨tw_216, (List.forall_mem_append.mpr ⟨(List.forall_mem_cons.mpr ⟨tw_219, (List.forall_mem_cons.mpr ⟨tw_218, (List.forall_mem_cons.mpr ⟨tw_217, (List.forall_mem_cons.mpr ⟨tw_109, (List.forall_mem_cons.mpr ⟨tw_148, (List.forall_mem_cons.mpr ⟨tw_147, (List.forall_mem_cons.mpr ⟨tw_151, (List.forall_mem_cons.mpr ⟨tw_146, (fun _ h => absurd h List.not_mem_nil)⟩)⟩)⟩)⟩)⟩)⟩)⟩)⟩), lt_wsX90⟩)⟩)
set_option maxRecDepth 100000 in
theorem tw_220 : Cond.selects RX9 yX9_say yX9_say ∈ lw_tbl := List.mem_append_right _ (List.mem_append_right _ (List.mem_append_right _ (List.mem_append_right _ (List.mem_append_left _ (List.mem_of_getElem? (i := 25) rfl)))))
set_option maxRecDepth 100000 in
theorem tw_221 : Cond.instanceMethod yX9_say ∈ lw_tbl := List.mem_append_right _ (List.mem_append_right _ (List.mem_append_right _ (List.mem_append_right _ (List.mem_append_left _ (List.mem_of_getElem? (i := 24) rfl)))))
set_option maxRecDepth 100000 in
theorem tw_222 : Cond.methodLink RL 35 yX9_say ∈ lw_tbl := List.mem_append_right _ (List.mem_append_right _ (List.mem_append_right _ (List.mem_append_right _ (List.mem_append_left _ (List.mem_of_getElem? (i := 23) rfl)))))
set_option maxRecDepth 100000 in
theorem tw_223 : Cond.code yX8_wipe cX8_wipe 2 (some .int) ∈ lw_tbl := List.mem_append_right _ (List.mem_append_right _ (List.mem_append_left _ (List.mem_of_getElem? (i := 62) rfl)))
set_option maxRecDepth 100000 in
theorem tw_224 : Cond.code yX3_clear cX3_clear 1 none ∈ lw_tbl := List.mem_append_right _ (List.mem_append_right _ (List.mem_append_left _ (List.mem_of_getElem? (i := 66) rfl)))
set_option maxRecDepth 100000 in
theorem tw_225 : Cond.selects RX3 yX3_clear yX3_clear ∈ lw_tbl := List.mem_append_right _ (List.mem_append_right _ (List.mem_append_left _ (List.mem_of_getElem? (i := 65) rfl)))
set_option maxRecDepth 100000 in
theorem tw_226 : Cond.instanceMethod yX3_clear ∈ lw_tbl := List.mem_append_right _ (List.mem_append_right _ (List.mem_append_left _ (List.mem_of_getElem? (i := 64) rfl)))
set_option maxRecDepth 100000 in
theorem tw_227 : Cond.methodLink RX8 112 yX3_clear ∈ lw_tbl := List.mem_append_right _ (List.mem_append_right _ (List.mem_append_left _ (List.mem_of_getElem? (i := 63) rfl)))
set_option maxRecDepth 100000 in
theorem lt_wsX8_wipe : ∀ w ∈ wsX8_wipe, w ∈ lw_tbl := (List.forall_mem_cons.mpr ⟨tw_223, (List.forall_mem_append.mpr ⟨(List.forall_mem_append.mpr ⟨(List.forall_mem_cons.mpr ⟨tw_13, (List.forall_mem_cons.mpr ⟨tw_212, (List.forall_mem_cons.mpr ⟨tw_227, (List.forall_mem_cons.mpr ⟨tw_226, (List.forall_mem_cons.mpr ⟨tw_225, (List.forall_mem_cons.mpr ⟨tw_14, (List.forall_mem_cons.mpr ⟨tw_224, (List.forall_mem_cons.mpr ⟨tw_69, (fun _ h => absurd h List.not_mem_nil)⟩)⟩)⟩)⟩)⟩)⟩)⟩)⟩), lt_wsX80⟩), lt_wsX30⟩)⟩)
set_option maxRecDepth 100000 in
theorem tw_228 : Cond.selects RX8 yX8_wipe yX8_wipe ∈ lw_tbl := List.mem_append_right _ (List.mem_append_right _ (List.mem_append_left _ (List.mem_of_getElem? (i := 61) rfl)))
set_option maxRecDepth 100000 in
theorem tw_229 : Cond.instanceMethod yX8_wipe ∈ lw_tbl := List.mem_append_right _ (List.mem_append_right _ (List.mem_append_left _ (List.mem_of_getElem? (i := 60) rfl)))
set_option maxRecDepth 100000 in
theorem tw_230 : Cond.methodLink RL 36 yX8_wipe ∈ lw_tbl := List.mem_append_right _ (List.mem_append_right _ (List.mem_append_left _ (List.mem_of_getElem? (i := 59) rfl)))
set_option maxRecDepth 100000 in
theorem tw_231 : Cond.code yX9_wipe cX9_wipe 2 (some .int) ∈ lw_tbl := List.mem_append_right _ (List.mem_append_right _ (List.mem_append_right _ (List.mem_append_right _ (List.mem_append_left _ (List.mem_of_getElem? (i := 32) rfl)))))
set_option maxRecDepth 100000 in
theorem lt_wsX9_wipe : ∀ w ∈ wsX9_wipe, w ∈ lw_tbl := (List.forall_mem_cons.mpr ⟨tw_231, (List.forall_mem_append.mpr ⟨(List.forall_mem_cons.mpr ⟨tw_217, (fun _ h => absurd h List.not_mem_nil)⟩), lt_wsX90⟩)⟩)
set_option maxRecDepth 100000 in
theorem tw_232 : Cond.selects RX9 yX9_wipe yX9_wipe ∈ lw_tbl := List.mem_append_right _ (List.mem_append_right _ (List.mem_append_right _ (List.mem_append_right _ (List.mem_append_left _ (List.mem_of_getElem? (i := 31) rfl)))))
set_option maxRecDepth 100000 in
theorem tw_233 : Cond.instanceMethod yX9_wipe ∈ lw_tbl := List.mem_append_right _ (List.mem_append_right _ (List.mem_append_right _ (List.mem_append_right _ (List.mem_append_left _ (List.mem_of_getElem? (i := 30) rfl)))))
set_option maxRecDepth 100000 in
theorem tw_234 : Cond.methodLink RL 40 yX9_wipe ∈ lw_tbl := List.mem_append_right _ (List.mem_append_right _ (List.mem_append_right _ (List.mem_append_right _ (List.mem_append_left _ (List.mem_of_getElem? (i := 29) rfl)))))
set_option maxRecDepth 100000 in
theorem tw_235 : Cond.code yX8_fault cX8_fault 1 (some .int) ∈ lw_tbl := List.mem_append_right _ (List.mem_append_right _ (List.mem_append_left _ (List.mem_of_getElem? (i := 70) rfl)))
set_option maxRecDepth 100000 in
theorem tw_236 : Cond.instanceMethod yX3_lengthAt ∈ lw_tbl := List.mem_append_right _ (List.mem_append_right _ (List.mem_append_left _ (List.mem_of_getElem? (i := 88) rfl)))
set_option maxRecDepth 100000 in
theorem tw_237 : Cond.methodLink RX3 23 yX3_lengthAt ∈ lw_tbl := List.mem_append_right _ (List.mem_append_right _ (List.mem_append_left _ (List.mem_of_getElem? (i := 87) rfl)))
set_option maxRecDepth 100000 in
theorem tw_238 : Cond.code yX3_isLetter cX3_isLetter 1 (some .boolean) ∈ lw_tbl := List.mem_append_right _ (List.mem_append_right _ (List.mem_append_left _ (List.mem_of_getElem? (i := 85) rfl)))
set_option maxRecDepth 100000 in
theorem tw_239 : Cond.static yX3_isLetter ∈ lw_tbl := List.mem_append_right _ (List.mem_append_right _ (List.mem_append_left _ (List.mem_of_getElem? (i := 84) rfl)))
set_option maxRecDepth 100000 in
theorem tw_240 : Cond.methodLink RX3 29 yX3_isLetter ∈ lw_tbl := List.mem_append_right _ (List.mem_append_right _ (List.mem_append_left _ (List.mem_of_getElem? (i := 83) rfl)))
set_option maxRecDepth 100000 in
theorem tw_241 : Cond.code yX3_signAt cX3_signAt 2 (some .int) ∈ lw_tbl := List.mem_append_right _ (List.mem_append_right _ (List.mem_append_left _ (List.mem_of_getElem? (i := 82) rfl)))
set_option maxRecDepth 100000 in
theorem tw_242 : Cond.selects RX3 yX3_signAt yX3_signAt ∈ lw_tbl := List.mem_append_left _ (List.mem_of_getElem? (i := 2) rfl)
set_option maxRecDepth 100000 in
theorem tw_243 : Cond.instanceMethod yX3_signAt ∈ lw_tbl := List.mem_append_right _ (List.mem_append_right _ (List.mem_append_left _ (List.mem_of_getElem? (i := 81) rfl)))
set_option maxRecDepth 100000 in
theorem tw_244 : Cond.methodLink RX3 26 yX3_signAt ∈ lw_tbl := List.mem_append_right _ (List.mem_append_right _ (List.mem_append_left _ (List.mem_of_getElem? (i := 79) rfl)))
set_option maxRecDepth 100000 in
theorem tw_245 : Cond.code yX3_faultOfAct cX3_faultOfAct 3 (some .int) ∈ lw_tbl := List.mem_append_right _ (List.mem_append_right _ (List.mem_append_left _ (List.mem_of_getElem? (i := 78) rfl)))
set_option maxRecDepth 100000 in
theorem tw_246 : Cond.selects RX3 yX3_faultOfAct yX3_faultOfAct ∈ lw_tbl := List.mem_append_left _ (List.mem_of_getElem? (i := 1) rfl)
set_option maxRecDepth 100000 in
theorem tw_247 : Cond.instanceMethod yX3_faultOfAct ∈ lw_tbl := List.mem_append_right _ (List.mem_append_right _ (List.mem_append_left _ (List.mem_of_getElem? (i := 77) rfl)))
set_option maxRecDepth 100000 in
theorem tw_248 : Cond.methodLink RX3 19 yX3_faultOfAct ∈ lw_tbl := List.mem_append_right _ (List.mem_append_right _ (List.mem_append_left _ (List.mem_of_getElem? (i := 75) rfl)))
set_option maxRecDepth 100000 in
theorem tw_249 : Cond.code yX3_firstFault cX3_firstFault 4 (some .int) ∈ lw_tbl := List.mem_append_right _ (List.mem_append_right _ (List.mem_append_left _ (List.mem_of_getElem? (i := 74) rfl)))
set_option maxRecDepth 100000 in
theorem tw_250 : Cond.selects RX3 yX3_firstFault yX3_firstFault ∈ lw_tbl := List.mem_append_right _ (List.mem_append_right _ (List.mem_append_left _ (List.mem_of_getElem? (i := 73) rfl)))
set_option maxRecDepth 100000 in
theorem tw_251 : Cond.instanceMethod yX3_firstFault ∈ lw_tbl := List.mem_append_right _ (List.mem_append_right _ (List.mem_append_left _ (List.mem_of_getElem? (i := 72) rfl)))
set_option maxRecDepth 100000 in
theorem tw_252 : Cond.methodLink RX8 115 yX3_firstFault ∈ lw_tbl := List.mem_append_right _ (List.mem_append_right _ (List.mem_append_left _ (List.mem_of_getElem? (i := 71) rfl)))
set_option maxRecDepth 100000 in
theorem lt_wsX8_fault_r1 : ∀ w ∈ wsX8_fault_r1, w ∈ lw_tbl := (List.forall_mem_cons.mpr ⟨tw_13, (List.forall_mem_cons.mpr ⟨tw_252, (List.forall_mem_cons.mpr ⟨tw_251, (List.forall_mem_cons.mpr ⟨tw_250, (List.forall_mem_cons.mpr ⟨tw_14, (List.forall_mem_cons.mpr ⟨tw_249, (List.forall_mem_cons.mpr ⟨tw_69, (List.forall_mem_cons.mpr ⟨tw_248, (List.forall_mem_cons.mpr ⟨tw_247, (List.forall_mem_cons.mpr ⟨tw_246, (List.forall_mem_cons.mpr ⟨tw_245, (List.forall_mem_cons.mpr ⟨tw_244, (List.forall_mem_cons.mpr ⟨tw_243, (List.forall_mem_cons.mpr ⟨tw_242, (List.forall_mem_cons.mpr ⟨tw_241, (List.forall_mem_cons.mpr ⟨tw_68, (List.forall_mem_cons.mpr ⟨tw_240, (List.forall_mem_cons.mpr ⟨tw_239, (List.forall_mem_cons.mpr ⟨tw_238, (List.forall_mem_cons.mpr ⟨tw_130, (List.forall_mem_cons.mpr ⟨tw_133, (List.forall_mem_cons.mpr ⟨tw_129, (List.forall_mem_cons.mpr ⟨tw_237, (List.forall_mem_cons.mpr ⟨tw_236, (fun _ h => absurd h List.not_mem_nil)⟩)⟩)⟩)⟩)⟩)⟩)⟩)⟩)⟩)⟩)⟩)⟩)⟩)⟩)⟩)⟩)⟩)⟩)⟩)⟩)⟩)⟩)⟩)⟩)
set_option maxRecDepth 100000 in
theorem tw_253 : Cond.code yX3_kindAt cX3_kindAt 2 (some .int) ∈ lw_tbl := List.mem_append_right _ (List.mem_append_right _ (List.mem_append_left _ (List.mem_of_getElem? (i := 94) rfl)))
set_option maxRecDepth 100000 in
theorem tw_254 : Cond.selects RX3 yX3_kindAt yX3_kindAt ∈ lw_tbl := List.mem_append_right _ (List.mem_append_right _ (List.mem_append_left _ (List.mem_of_getElem? (i := 93) rfl)))
set_option maxRecDepth 100000 in
theorem tw_255 : Cond.instanceMethod yX3_kindAt ∈ lw_tbl := List.mem_append_right _ (List.mem_append_right _ (List.mem_append_left _ (List.mem_of_getElem? (i := 92) rfl)))
set_option maxRecDepth 100000 in
theorem tw_256 : Cond.methodLink RX3 37 yX3_kindAt ∈ lw_tbl := List.mem_append_right _ (List.mem_append_right _ (List.mem_append_left _ (List.mem_of_getElem? (i := 91) rfl)))
set_option maxRecDepth 100000 in
theorem tw_257 : Cond.code yX3_lengthAt cX3_lengthAt 2 (some .int) ∈ lw_tbl := List.mem_append_right _ (List.mem_append_right _ (List.mem_append_left _ (List.mem_of_getElem? (i := 90) rfl)))
set_option maxRecDepth 100000 in
theorem tw_258 : Cond.selects RX3 yX3_lengthAt yX3_lengthAt ∈ lw_tbl := List.mem_append_right _ (List.mem_append_right _ (List.mem_append_left _ (List.mem_of_getElem? (i := 89) rfl)))
set_option maxRecDepth 100000 in
theorem lt_wsX8_fault_r2 : ∀ w ∈ wsX8_fault_r2, w ∈ lw_tbl := (List.forall_mem_cons.mpr ⟨tw_258, (List.forall_mem_cons.mpr ⟨tw_257, (List.forall_mem_cons.mpr ⟨tw_256, (List.forall_mem_cons.mpr ⟨tw_255, (List.forall_mem_cons.mpr ⟨tw_254, (List.forall_mem_cons.mpr ⟨tw_253, (fun _ h => absurd h List.not_mem_nil)⟩)⟩)⟩)⟩)⟩)⟩)
set_option maxRecDepth 100000 in
theorem lt_wsX8_fault : ∀ w ∈ wsX8_fault, w ∈ lw_tbl := (List.forall_mem_cons.mpr ⟨tw_235, (List.forall_mem_append.mpr ⟨(List.forall_mem_append.mpr ⟨(List.forall_mem_append.mpr ⟨lt_wsX8_fault_r1, lt_wsX8_fault_r2⟩), lt_wsX80⟩), lt_wsX30⟩)⟩)
set_option maxRecDepth 100000 in
theorem tw_259 : Cond.selects RX8 yX8_fault yX8_fault ∈ lw_tbl := List.mem_append_right _ (List.mem_append_right _ (List.mem_append_left _ (List.mem_of_getElem? (i := 69) rfl)))
set_option maxRecDepth 100000 in
theorem tw_260 : Cond.instanceMethod yX8_fault ∈ lw_tbl := List.mem_append_right _ (List.mem_append_right _ (List.mem_append_left _ (List.mem_of_getElem? (i := 68) rfl)))
set_option maxRecDepth 100000 in
theorem tw_261 : Cond.methodLink RL 41 yX8_fault ∈ lw_tbl := List.mem_append_right _ (List.mem_append_right _ (List.mem_append_left _ (List.mem_of_getElem? (i := 67) rfl)))
set_option maxRecDepth 100000 in
theorem tw_262 : Cond.code yX9_fault cX9_fault 3 (some .int) ∈ lw_tbl := List.mem_append_right _ (List.mem_append_right _ (List.mem_append_right _ (List.mem_append_right _ (List.mem_append_left _ (List.mem_of_getElem? (i := 36) rfl)))))
set_option maxRecDepth 100000 in
theorem tw_263 : Cond.methodLink RX9 114 yX9_close ∈ lw_tbl := List.mem_append_right _ (List.mem_append_right _ (List.mem_append_right _ (List.mem_append_right _ (List.mem_append_left _ (List.mem_of_getElem? (i := 50) rfl)))))
set_option maxRecDepth 100000 in
theorem tw_264 : Cond.constantLong RX9 109 (74) ∈ lw_tbl := List.mem_append_right _ (List.mem_append_right _ (List.mem_append_right _ (List.mem_append_right _ (List.mem_append_left _ (List.mem_of_getElem? (i := 49) rfl)))))
set_option maxRecDepth 100000 in
theorem tw_265 : Cond.constantLong RX9 107 (65) ∈ lw_tbl := List.mem_append_right _ (List.mem_append_right _ (List.mem_append_right _ (List.mem_append_right _ (List.mem_append_left _ (List.mem_of_getElem? (i := 48) rfl)))))
set_option maxRecDepth 100000 in
theorem tw_266 : Cond.code yX9_isLetter cX9_isLetter 1 (some .boolean) ∈ lw_tbl := List.mem_append_right _ (List.mem_append_right _ (List.mem_append_right _ (List.mem_append_right _ (List.mem_append_left _ (List.mem_of_getElem? (i := 47) rfl)))))
set_option maxRecDepth 100000 in
theorem tw_267 : Cond.static yX9_isLetter ∈ lw_tbl := List.mem_append_right _ (List.mem_append_right _ (List.mem_append_right _ (List.mem_append_right _ (List.mem_append_left _ (List.mem_of_getElem? (i := 46) rfl)))))
set_option maxRecDepth 100000 in
theorem tw_268 : Cond.methodLink RX9 111 yX9_isLetter ∈ lw_tbl := List.mem_append_right _ (List.mem_append_right _ (List.mem_append_right _ (List.mem_append_right _ (List.mem_append_left _ (List.mem_of_getElem? (i := 45) rfl)))))
set_option maxRecDepth 100000 in
theorem tw_269 : Cond.code yX9_begin cX9_begin 2 (some .int) ∈ lw_tbl := List.mem_append_right _ (List.mem_append_right _ (List.mem_append_right _ (List.mem_append_right _ (List.mem_append_left _ (List.mem_of_getElem? (i := 44) rfl)))))
set_option maxRecDepth 100000 in
theorem tw_270 : Cond.selects RX9 yX9_begin yX9_begin ∈ lw_tbl := List.mem_append_left _ (List.mem_of_getElem? (i := 24) rfl)
set_option maxRecDepth 100000 in
theorem tw_271 : Cond.instanceMethod yX9_begin ∈ lw_tbl := List.mem_append_right _ (List.mem_append_right _ (List.mem_append_right _ (List.mem_append_right _ (List.mem_append_left _ (List.mem_of_getElem? (i := 43) rfl)))))
set_option maxRecDepth 100000 in
theorem tw_272 : Cond.methodLink RX9 122 yX9_begin ∈ lw_tbl := List.mem_append_right _ (List.mem_append_right _ (List.mem_append_right _ (List.mem_append_right _ (List.mem_append_left _ (List.mem_of_getElem? (i := 41) rfl)))))
set_option maxRecDepth 100000 in
theorem tw_273 : Cond.constantLong RX9 130 (55) ∈ lw_tbl := List.mem_append_right _ (List.mem_append_right _ (List.mem_append_right _ (List.mem_append_right _ (List.mem_append_left _ (List.mem_of_getElem? (i := 61) rfl)))))
set_option maxRecDepth 100000 in
theorem tw_274 : Cond.constantLong RX9 128 (48) ∈ lw_tbl := List.mem_append_right _ (List.mem_append_right _ (List.mem_append_right _ (List.mem_append_right _ (List.mem_append_left _ (List.mem_of_getElem? (i := 60) rfl)))))
set_option maxRecDepth 100000 in
theorem tw_275 : Cond.code yX9_readOn cX9_readOn 3 (some .int) ∈ lw_tbl := List.mem_append_right _ (List.mem_append_right _ (List.mem_append_right _ (List.mem_append_right _ (List.mem_append_left _ (List.mem_of_getElem? (i := 40) rfl)))))
set_option maxRecDepth 100000 in
theorem tw_276 : Cond.selects RX9 yX9_readOn yX9_readOn ∈ lw_tbl := List.mem_append_left _ (List.mem_of_getElem? (i := 23) rfl)
set_option maxRecDepth 100000 in
theorem tw_277 : Cond.instanceMethod yX9_readOn ∈ lw_tbl := List.mem_append_right _ (List.mem_append_right _ (List.mem_append_right _ (List.mem_append_right _ (List.mem_append_left _ (List.mem_of_getElem? (i := 39) rfl)))))
set_option maxRecDepth 100000 in
theorem tw_278 : Cond.methodLink RX9 132 yX9_readOn ∈ lw_tbl := List.mem_append_right _ (List.mem_append_right _ (List.mem_append_right _ (List.mem_append_right _ (List.mem_append_left _ (List.mem_of_getElem? (i := 37) rfl)))))
set_option maxRecDepth 100000 in
theorem tw_279 : Cond.fieldLink RX9 104 "HassockSeeModel" "acts" "I" ∈ lw_tbl := List.mem_append_right _ (List.mem_append_right _ (List.mem_append_right _ (List.mem_append_left _ (List.mem_of_getElem? (i := 149) rfl))))
set_option maxRecDepth 100000 in
theorem lt_wsX9_fault_r1 : ∀ w ∈ wsX9_fault_r1, w ∈ lw_tbl := (List.forall_mem_cons.mpr ⟨tw_279, (List.forall_mem_cons.mpr ⟨tw_217, (List.forall_mem_cons.mpr ⟨tw_109, (List.forall_mem_cons.mpr ⟨tw_278, (List.forall_mem_cons.mpr ⟨tw_277, (List.forall_mem_cons.mpr ⟨tw_276, (List.forall_mem_cons.mpr ⟨tw_151, (List.forall_mem_cons.mpr ⟨tw_275, (List.forall_mem_cons.mpr ⟨tw_274, (List.forall_mem_cons.mpr ⟨tw_273, (List.forall_mem_cons.mpr ⟨tw_272, (List.forall_mem_cons.mpr ⟨tw_271, (List.forall_mem_cons.mpr ⟨tw_270, (List.forall_mem_cons.mpr ⟨tw_269, (List.forall_mem_cons.mpr ⟨tw_107, (List.forall_mem_cons.mpr ⟨tw_268, (List.forall_mem_cons.mpr ⟨tw_267, (List.forall_mem_cons.mpr ⟨tw_266, (List.forall_mem_cons.mpr ⟨tw_265, (List.forall_mem_cons.mpr ⟨tw_264, (List.forall_mem_cons.mpr ⟨tw_148, (List.forall_mem_cons.mpr ⟨tw_147, (List.forall_mem_cons.mpr ⟨tw_146, (List.forall_mem_cons.mpr ⟨tw_263, (fun _ h => absurd h List.not_mem_nil)⟩)⟩)⟩)⟩)⟩)⟩)⟩)⟩)⟩)⟩)⟩)⟩)⟩)⟩)⟩)⟩)⟩)⟩)⟩)⟩)⟩)⟩)⟩)⟩)
set_option maxRecDepth 100000 in
theorem tw_280 : Cond.constantLong RX9 120 (57) ∈ lw_tbl := List.mem_append_right _ (List.mem_append_right _ (List.mem_append_right _ (List.mem_append_right _ (List.mem_append_left _ (List.mem_of_getElem? (i := 59) rfl)))))
set_option maxRecDepth 100000 in
theorem tw_281 : Cond.constantLong RX9 118 (49) ∈ lw_tbl := List.mem_append_right _ (List.mem_append_right _ (List.mem_append_right _ (List.mem_append_right _ (List.mem_append_left _ (List.mem_of_getElem? (i := 58) rfl)))))
set_option maxRecDepth 100000 in
theorem tw_282 : Cond.code yX9_deed cX9_deed 2 (some .int) ∈ lw_tbl := List.mem_append_right _ (List.mem_append_right _ (List.mem_append_right _ (List.mem_append_right _ (List.mem_append_left _ (List.mem_of_getElem? (i := 57) rfl)))))
set_option maxRecDepth 100000 in
theorem tw_283 : Cond.selects RX9 yX9_deed yX9_deed ∈ lw_tbl := List.mem_append_left _ (List.mem_of_getElem? (i := 26) rfl)
set_option maxRecDepth 100000 in
theorem tw_284 : Cond.instanceMethod yX9_deed ∈ lw_tbl := List.mem_append_right _ (List.mem_append_right _ (List.mem_append_right _ (List.mem_append_right _ (List.mem_append_left _ (List.mem_of_getElem? (i := 56) rfl)))))
set_option maxRecDepth 100000 in
theorem tw_285 : Cond.methodLink RX9 125 yX9_deed ∈ lw_tbl := List.mem_append_right _ (List.mem_append_right _ (List.mem_append_right _ (List.mem_append_right _ (List.mem_append_left _ (List.mem_of_getElem? (i := 54) rfl)))))
set_option maxRecDepth 100000 in
theorem tw_286 : Cond.code yX9_close cX9_close 3 (some .int) ∈ lw_tbl := List.mem_append_right _ (List.mem_append_right _ (List.mem_append_right _ (List.mem_append_right _ (List.mem_append_left _ (List.mem_of_getElem? (i := 53) rfl)))))
set_option maxRecDepth 100000 in
theorem tw_287 : Cond.selects RX9 yX9_close yX9_close ∈ lw_tbl := List.mem_append_left _ (List.mem_of_getElem? (i := 25) rfl)
set_option maxRecDepth 100000 in
theorem tw_288 : Cond.instanceMethod yX9_close ∈ lw_tbl := List.mem_append_right _ (List.mem_append_right _ (List.mem_append_right _ (List.mem_append_right _ (List.mem_append_left _ (List.mem_of_getElem? (i := 52) rfl)))))
set_option maxRecDepth 100000 in
theorem lt_wsX9_fault_r2 : ∀ w ∈ wsX9_fault_r2, w ∈ lw_tbl := (List.forall_mem_cons.mpr ⟨tw_288, (List.forall_mem_cons.mpr ⟨tw_287, (List.forall_mem_cons.mpr ⟨tw_286, (List.forall_mem_cons.mpr ⟨tw_108, (List.forall_mem_cons.mpr ⟨tw_106, (List.forall_mem_cons.mpr ⟨tw_285, (List.forall_mem_cons.mpr ⟨tw_284, (List.forall_mem_cons.mpr ⟨tw_283, (List.forall_mem_cons.mpr ⟨tw_282, (List.forall_mem_cons.mpr ⟨tw_281, (List.forall_mem_cons.mpr ⟨tw_280, (fun _ h => absurd h List.not_mem_nil)⟩)⟩)⟩)⟩)⟩)⟩)⟩)⟩)⟩)⟩)⟩)
set_option maxRecDepth 100000 in
theorem lt_wsX9_fault : ∀ w ∈ wsX9_fault, w ∈ lw_tbl := (List.forall_mem_cons.mpr ⟨tw_262, (List.forall_mem_append.mpr ⟨(List.forall_mem_append.mpr ⟨lt_wsX9_fault_r1, lt_wsX9_fault_r2⟩), lt_wsX90⟩)⟩)
set_option maxRecDepth 100000 in
theorem tw_289 : Cond.selects RX9 yX9_fault yX9_fault ∈ lw_tbl := List.mem_append_right _ (List.mem_append_right _ (List.mem_append_right _ (List.mem_append_right _ (List.mem_append_left _ (List.mem_of_getElem? (i := 35) rfl)))))
set_option maxRecDepth 100000 in
theorem tw_290 : Cond.instanceMethod yX9_fault ∈ lw_tbl := List.mem_append_right _ (List.mem_append_right _ (List.mem_append_right _ (List.mem_append_right _ (List.mem_append_left _ (List.mem_of_getElem? (i := 34) rfl)))))
set_option maxRecDepth 100000 in
theorem tw_291 : Cond.methodLink RL 44 yX9_fault ∈ lw_tbl := List.mem_append_right _ (List.mem_append_right _ (List.mem_append_right _ (List.mem_append_right _ (List.mem_append_left _ (List.mem_of_getElem? (i := 33) rfl)))))
set_option maxRecDepth 100000 in
theorem tw_292 : Cond.code yX8_judge cX8_judge 3 (some .int) ∈ lw_tbl := List.mem_append_right _ (List.mem_append_right _ (List.mem_append_left _ (List.mem_of_getElem? (i := 98) rfl)))
set_option maxRecDepth 100000 in
theorem tw_293 : Cond.code yX8_tryText cX8_tryText 1 (some .int) ∈ lw_tbl := List.mem_append_right _ (List.mem_append_right _ (List.mem_append_left _ (List.mem_of_getElem? (i := 102) rfl)))
set_option maxRecDepth 100000 in
theorem tw_294 : Cond.selects RX8 yX8_tryText yX8_tryText ∈ lw_tbl := List.mem_append_left _ (List.mem_of_getElem? (i := 3) rfl)
set_option maxRecDepth 100000 in
theorem tw_295 : Cond.instanceMethod yX8_tryText ∈ lw_tbl := List.mem_append_right _ (List.mem_append_right _ (List.mem_append_left _ (List.mem_of_getElem? (i := 101) rfl)))
set_option maxRecDepth 100000 in
theorem tw_296 : Cond.methodLink RX8 118 yX8_tryText ∈ lw_tbl := List.mem_append_right _ (List.mem_append_right _ (List.mem_append_left _ (List.mem_of_getElem? (i := 99) rfl)))
set_option maxRecDepth 100000 in
theorem tw_297 : Cond.fieldLink RX8 127 "HassockSee$Years" "sweptCount" "I" ∈ lw_tbl := List.mem_append_right _ (List.mem_append_left _ (List.mem_of_getElem? (i := 84) rfl))
set_option maxRecDepth 100000 in
theorem tw_298 : Cond.fieldLink RX8 124 "HassockSee$Years" "reason" "I" ∈ lw_tbl := List.mem_append_right _ (List.mem_append_left _ (List.mem_of_getElem? (i := 82) rfl))
set_option maxRecDepth 100000 in
theorem tw_299 : Cond.fieldLink RX8 121 "HassockSee$Years" "badAct" "I" ∈ lw_tbl := List.mem_append_right _ (List.mem_append_left _ (List.mem_of_getElem? (i := 80) rfl))
set_option maxRecDepth 100000 in
theorem lt_wsX8_judge_r1 : ∀ w ∈ wsX8_judge_r1, w ∈ lw_tbl := (List.forall_mem_cons.mpr ⟨tw_9, (List.forall_mem_cons.mpr ⟨tw_299, (List.forall_mem_cons.mpr ⟨tw_298, (List.forall_mem_cons.mpr ⟨tw_297, (List.forall_mem_cons.mpr ⟨tw_131, (List.forall_mem_cons.mpr ⟨tw_130, (List.forall_mem_cons.mpr ⟨tw_133, (List.forall_mem_cons.mpr ⟨tw_129, (List.forall_mem_cons.mpr ⟨tw_296, (List.forall_mem_cons.mpr ⟨tw_295, (List.forall_mem_cons.mpr ⟨tw_294, (List.forall_mem_cons.mpr ⟨tw_293, (List.forall_mem_cons.mpr ⟨tw_13, (List.forall_mem_cons.mpr ⟨tw_17, (List.forall_mem_cons.mpr ⟨tw_18, (List.forall_mem_cons.mpr ⟨tw_252, (List.forall_mem_cons.mpr ⟨tw_251, (List.forall_mem_cons.mpr ⟨tw_250, (List.forall_mem_cons.mpr ⟨tw_14, (List.forall_mem_cons.mpr ⟨tw_249, (List.forall_mem_cons.mpr ⟨tw_69, (List.forall_mem_cons.mpr ⟨tw_248, (List.forall_mem_cons.mpr ⟨tw_247, (List.forall_mem_cons.mpr ⟨tw_246, (fun _ h => absurd h List.not_mem_nil)⟩)⟩)⟩)⟩)⟩)⟩)⟩)⟩)⟩)⟩)⟩)⟩)⟩)⟩)⟩)⟩)⟩)⟩)⟩)⟩)⟩)⟩)⟩)⟩)
set_option maxRecDepth 100000 in
theorem tw_300 : Cond.code yX1_copyFrom cX1_copyFrom 3 none ∈ lw_tbl := List.mem_append_right _ (List.mem_append_right _ (List.mem_append_left _ (List.mem_of_getElem? (i := 106) rfl)))
set_option maxRecDepth 100000 in
theorem tw_301 : Cond.selects RX1 yX1_copyFrom yX1_copyFrom ∈ lw_tbl := List.mem_append_right _ (List.mem_append_right _ (List.mem_append_left _ (List.mem_of_getElem? (i := 105) rfl)))
set_option maxRecDepth 100000 in
theorem tw_302 : Cond.instanceMethod yX1_copyFrom ∈ lw_tbl := List.mem_append_right _ (List.mem_append_right _ (List.mem_append_left _ (List.mem_of_getElem? (i := 104) rfl)))
set_option maxRecDepth 100000 in
theorem tw_303 : Cond.methodLink RX8 151 yX1_copyFrom ∈ lw_tbl := List.mem_append_right _ (List.mem_append_right _ (List.mem_append_left _ (List.mem_of_getElem? (i := 103) rfl)))
set_option maxRecDepth 100000 in
theorem lt_wsX8_judge_r2 : ∀ w ∈ wsX8_judge_r2, w ∈ lw_tbl := (List.forall_mem_cons.mpr ⟨tw_245, (List.forall_mem_cons.mpr ⟨tw_244, (List.forall_mem_cons.mpr ⟨tw_243, (List.forall_mem_cons.mpr ⟨tw_242, (List.forall_mem_cons.mpr ⟨tw_241, (List.forall_mem_cons.mpr ⟨tw_68, (List.forall_mem_cons.mpr ⟨tw_240, (List.forall_mem_cons.mpr ⟨tw_239, (List.forall_mem_cons.mpr ⟨tw_238, (List.forall_mem_cons.mpr ⟨tw_237, (List.forall_mem_cons.mpr ⟨tw_236, (List.forall_mem_cons.mpr ⟨tw_258, (List.forall_mem_cons.mpr ⟨tw_257, (List.forall_mem_cons.mpr ⟨tw_256, (List.forall_mem_cons.mpr ⟨tw_255, (List.forall_mem_cons.mpr ⟨tw_254, (List.forall_mem_cons.mpr ⟨tw_253, (List.forall_mem_cons.mpr ⟨tw_303, (List.forall_mem_cons.mpr ⟨tw_302, (List.forall_mem_cons.mpr ⟨tw_301, (List.forall_mem_cons.mpr ⟨tw_19, (List.forall_mem_cons.mpr ⟨tw_300, (List.forall_mem_cons.mpr ⟨tw_31, (List.forall_mem_cons.mpr ⟨tw_30, (fun _ h => absurd h List.not_mem_nil)⟩)⟩)⟩)⟩)⟩)⟩)⟩)⟩)⟩)⟩)⟩)⟩)⟩)⟩)⟩)⟩)⟩)⟩)⟩)⟩)⟩)⟩)⟩)⟩)
set_option maxRecDepth 100000 in
theorem tw_304 : Cond.selects RX3 yX3_numberAt yX3_numberAt ∈ lw_tbl := List.mem_append_right _ (List.mem_append_right _ (List.mem_append_left _ (List.mem_of_getElem? (i := 118) rfl)))
set_option maxRecDepth 100000 in
theorem tw_305 : Cond.instanceMethod yX3_numberAt ∈ lw_tbl := List.mem_append_right _ (List.mem_append_right _ (List.mem_append_left _ (List.mem_of_getElem? (i := 117) rfl)))
set_option maxRecDepth 100000 in
theorem tw_306 : Cond.methodLink RX7 42 yX3_numberAt ∈ lw_tbl := List.mem_append_right _ (List.mem_append_right _ (List.mem_append_left _ (List.mem_of_getElem? (i := 116) rfl)))
set_option maxRecDepth 100000 in
theorem tw_307 : Cond.code yX3_whoAt cX3_whoAt 2 (some .int) ∈ lw_tbl := List.mem_append_right _ (List.mem_append_right _ (List.mem_append_left _ (List.mem_of_getElem? (i := 115) rfl)))
set_option maxRecDepth 100000 in
theorem tw_308 : Cond.selects RX3 yX3_whoAt yX3_whoAt ∈ lw_tbl := List.mem_append_right _ (List.mem_append_right _ (List.mem_append_left _ (List.mem_of_getElem? (i := 114) rfl)))
set_option maxRecDepth 100000 in
theorem tw_309 : Cond.instanceMethod yX3_whoAt ∈ lw_tbl := List.mem_append_right _ (List.mem_append_right _ (List.mem_append_left _ (List.mem_of_getElem? (i := 113) rfl)))
set_option maxRecDepth 100000 in
theorem tw_310 : Cond.methodLink RX7 39 yX3_whoAt ∈ lw_tbl := List.mem_append_right _ (List.mem_append_right _ (List.mem_append_left _ (List.mem_of_getElem? (i := 112) rfl)))
set_option maxRecDepth 100000 in
theorem tw_311 : Cond.methodLink RX7 35 yX3_kindAt ∈ lw_tbl := List.mem_append_right _ (List.mem_append_right _ (List.mem_append_left _ (List.mem_of_getElem? (i := 111) rfl)))
set_option maxRecDepth 100000 in
theorem tw_312 : Cond.fieldLink RX7 30 "HassockSee$Pad" "count" "I" ∈ lw_tbl := List.mem_append_right _ (List.mem_append_left _ (List.mem_of_getElem? (i := 63) rfl))
set_option maxRecDepth 100000 in
theorem tw_313 : Cond.fieldLink RX7 27 "HassockSee$Years" "sweptHassock" "I" ∈ lw_tbl := List.mem_append_right _ (List.mem_append_left _ (List.mem_of_getElem? (i := 87) rfl))
set_option maxRecDepth 100000 in
theorem tw_314 : Cond.fieldLink RX7 24 "HassockSee$Years" "sweepingAct" "I" ∈ lw_tbl := List.mem_append_right _ (List.mem_append_left _ (List.mem_of_getElem? (i := 85) rfl))
set_option maxRecDepth 100000 in
theorem tw_315 : Cond.fieldLink RX7 21 "HassockSee$Years" "sweptCount" "I" ∈ lw_tbl := List.mem_append_right _ (List.mem_append_left _ (List.mem_of_getElem? (i := 83) rfl))
set_option maxRecDepth 100000 in
theorem tw_316 : Cond.fieldLink RX7 18 "HassockSee$Years" "reason" "I" ∈ lw_tbl := List.mem_append_right _ (List.mem_append_left _ (List.mem_of_getElem? (i := 81) rfl))
set_option maxRecDepth 100000 in
theorem tw_317 : Cond.fieldLink RX7 15 "HassockSee$Years" "badAct" "I" ∈ lw_tbl := List.mem_append_right _ (List.mem_append_left _ (List.mem_of_getElem? (i := 79) rfl))
set_option maxRecDepth 100000 in
theorem tw_318 : Cond.fieldLink RX7 9 "HassockSee$Years" "acts" "I" ∈ lw_tbl := List.mem_append_right _ (List.mem_append_left _ (List.mem_of_getElem? (i := 77) rfl))
set_option maxRecDepth 100000 in
theorem tw_319 : Cond.code yX7_run cX7_run 8 none ∈ lw_tbl := List.mem_append_right _ (List.mem_append_right _ (List.mem_append_left _ (List.mem_of_getElem? (i := 110) rfl)))
set_option maxRecDepth 100000 in
theorem tw_320 : Cond.selects RX7 yX7_run yX7_run ∈ lw_tbl := List.mem_append_right _ (List.mem_append_right _ (List.mem_append_left _ (List.mem_of_getElem? (i := 109) rfl)))
set_option maxRecDepth 100000 in
theorem tw_321 : Cond.instanceMethod yX7_run ∈ lw_tbl := List.mem_append_right _ (List.mem_append_right _ (List.mem_append_left _ (List.mem_of_getElem? (i := 108) rfl)))
set_option maxRecDepth 100000 in
theorem tw_322 : Cond.methodLink RX8 242 yX7_run ∈ lw_tbl := List.mem_append_right _ (List.mem_append_right _ (List.mem_append_left _ (List.mem_of_getElem? (i := 107) rfl)))
set_option maxRecDepth 100000 in
theorem lt_wsX8_judge_r3 : ∀ w ∈ wsX8_judge_r3, w ∈ lw_tbl := (List.forall_mem_cons.mpr ⟨tw_29, (List.forall_mem_cons.mpr ⟨tw_27, (List.forall_mem_cons.mpr ⟨tw_26, (List.forall_mem_cons.mpr ⟨tw_25, (List.forall_mem_cons.mpr ⟨tw_322, (List.forall_mem_cons.mpr ⟨tw_321, (List.forall_mem_cons.mpr ⟨tw_320, (List.forall_mem_cons.mpr ⟨tw_10, (List.forall_mem_cons.mpr ⟨tw_319, (List.forall_mem_cons.mpr ⟨tw_318, (List.forall_mem_cons.mpr ⟨tw_317, (List.forall_mem_cons.mpr ⟨tw_316, (List.forall_mem_cons.mpr ⟨tw_315, (List.forall_mem_cons.mpr ⟨tw_314, (List.forall_mem_cons.mpr ⟨tw_313, (List.forall_mem_cons.mpr ⟨tw_312, (List.forall_mem_cons.mpr ⟨tw_311, (List.forall_mem_cons.mpr ⟨tw_310, (List.forall_mem_cons.mpr ⟨tw_309, (List.forall_mem_cons.mpr ⟨tw_308, (List.forall_mem_cons.mpr ⟨tw_307, (List.forall_mem_cons.mpr ⟨tw_306, (List.forall_mem_cons.mpr ⟨tw_305, (List.forall_mem_cons.mpr ⟨tw_304, (fun _ h => absurd h List.not_mem_nil)⟩)⟩)⟩)⟩)⟩)⟩)⟩)⟩)⟩)⟩)⟩)⟩)⟩)⟩)⟩)⟩)⟩)⟩)⟩)⟩)⟩)⟩)⟩)⟩)
set_option maxRecDepth 100000 in
theorem tw_323 : Cond.methodLink RX1 59 yX1_howMany ∈ lw_tbl := List.mem_append_right _ (List.mem_append_right _ (List.mem_append_left _ (List.mem_of_getElem? (i := 129) rfl)))
set_option maxRecDepth 100000 in
theorem tw_324 : Cond.methodLink RX1 56 yX1_isThere ∈ lw_tbl := List.mem_append_right _ (List.mem_append_right _ (List.mem_append_left _ (List.mem_of_getElem? (i := 128) rfl)))
set_option maxRecDepth 100000 in
theorem tw_325 : Cond.code yX1_whyNot cX1_whyNot 4 (some .int) ∈ lw_tbl := List.mem_append_right _ (List.mem_append_right _ (List.mem_append_left _ (List.mem_of_getElem? (i := 127) rfl)))
set_option maxRecDepth 100000 in
theorem tw_326 : Cond.selects RX1 yX1_whyNot yX1_whyNot ∈ lw_tbl := List.mem_append_left _ (List.mem_of_getElem? (i := 4) rfl)
set_option maxRecDepth 100000 in
theorem tw_327 : Cond.instanceMethod yX1_whyNot ∈ lw_tbl := List.mem_append_right _ (List.mem_append_right _ (List.mem_append_left _ (List.mem_of_getElem? (i := 126) rfl)))
set_option maxRecDepth 100000 in
theorem tw_328 : Cond.methodLink RX1 48 yX1_whyNot ∈ lw_tbl := List.mem_append_right _ (List.mem_append_right _ (List.mem_append_left _ (List.mem_of_getElem? (i := 124) rfl)))
set_option maxRecDepth 100000 in
theorem tw_329 : Cond.code yX1_attempt cX1_attempt 5 (some .int) ∈ lw_tbl := List.mem_append_right _ (List.mem_append_right _ (List.mem_append_left _ (List.mem_of_getElem? (i := 123) rfl)))
set_option maxRecDepth 100000 in
theorem tw_330 : Cond.selects RX1 yX1_attempt yX1_attempt ∈ lw_tbl := List.mem_append_right _ (List.mem_append_right _ (List.mem_append_left _ (List.mem_of_getElem? (i := 122) rfl)))
set_option maxRecDepth 100000 in
theorem tw_331 : Cond.instanceMethod yX1_attempt ∈ lw_tbl := List.mem_append_right _ (List.mem_append_right _ (List.mem_append_left _ (List.mem_of_getElem? (i := 121) rfl)))
set_option maxRecDepth 100000 in
theorem tw_332 : Cond.methodLink RX7 45 yX1_attempt ∈ lw_tbl := List.mem_append_right _ (List.mem_append_right _ (List.mem_append_left _ (List.mem_of_getElem? (i := 120) rfl)))
set_option maxRecDepth 100000 in
theorem tw_333 : Cond.code yX3_numberAt cX3_numberAt 2 (some .int) ∈ lw_tbl := List.mem_append_right _ (List.mem_append_right _ (List.mem_append_left _ (List.mem_of_getElem? (i := 119) rfl)))
set_option maxRecDepth 100000 in
theorem lt_wsX8_judge_r4 : ∀ w ∈ wsX8_judge_r4, w ∈ lw_tbl := (List.forall_mem_cons.mpr ⟨tw_333, (List.forall_mem_cons.mpr ⟨tw_332, (List.forall_mem_cons.mpr ⟨tw_331, (List.forall_mem_cons.mpr ⟨tw_330, (List.forall_mem_cons.mpr ⟨tw_329, (List.forall_mem_cons.mpr ⟨tw_328, (List.forall_mem_cons.mpr ⟨tw_327, (List.forall_mem_cons.mpr ⟨tw_326, (List.forall_mem_cons.mpr ⟨tw_325, (List.forall_mem_cons.mpr ⟨tw_324, (List.forall_mem_cons.mpr ⟨tw_168, (List.forall_mem_cons.mpr ⟨tw_167, (List.forall_mem_cons.mpr ⟨tw_166, (List.forall_mem_cons.mpr ⟨tw_134, (List.forall_mem_cons.mpr ⟨tw_132, (List.forall_mem_cons.mpr ⟨tw_165, (List.forall_mem_cons.mpr ⟨tw_164, (List.forall_mem_cons.mpr ⟨tw_323, (List.forall_mem_cons.mpr ⟨tw_123, (List.forall_mem_cons.mpr ⟨tw_122, (List.forall_mem_cons.mpr ⟨tw_121, (List.forall_mem_cons.mpr ⟨tw_120, (List.forall_mem_cons.mpr ⟨tw_119, (List.forall_mem_cons.mpr ⟨tw_118, (fun _ h => absurd h List.not_mem_nil)⟩)⟩)⟩)⟩)⟩)⟩)⟩)⟩)⟩)⟩)⟩)⟩)⟩)⟩)⟩)⟩)⟩)⟩)⟩)⟩)⟩)⟩)⟩)⟩)
set_option maxRecDepth 100000 in
theorem tw_334 : Cond.methodLink RX1 77 yX1_changePlaces ∈ lw_tbl := List.mem_append_right _ (List.mem_append_right _ (List.mem_append_left _ (List.mem_of_getElem? (i := 142) rfl)))
set_option maxRecDepth 100000 in
theorem tw_335 : Cond.methodLink RX1 73 yX1_takeAway ∈ lw_tbl := List.mem_append_right _ (List.mem_append_right _ (List.mem_append_left _ (List.mem_of_getElem? (i := 138) rfl)))
set_option maxRecDepth 100000 in
theorem tw_336 : Cond.code yX1_kneelOn cX1_kneelOn 3 none ∈ lw_tbl := List.mem_append_right _ (List.mem_append_right _ (List.mem_append_left _ (List.mem_of_getElem? (i := 137) rfl)))
set_option maxRecDepth 100000 in
theorem tw_337 : Cond.selects RX1 yX1_kneelOn yX1_kneelOn ∈ lw_tbl := List.mem_append_left _ (List.mem_of_getElem? (i := 6) rfl)
set_option maxRecDepth 100000 in
theorem tw_338 : Cond.instanceMethod yX1_kneelOn ∈ lw_tbl := List.mem_append_right _ (List.mem_append_right _ (List.mem_append_left _ (List.mem_of_getElem? (i := 136) rfl)))
set_option maxRecDepth 100000 in
theorem tw_339 : Cond.methodLink RX1 63 yX1_kneelOn ∈ lw_tbl := List.mem_append_right _ (List.mem_append_right _ (List.mem_append_left _ (List.mem_of_getElem? (i := 134) rfl)))
set_option maxRecDepth 100000 in
theorem tw_340 : Cond.code Lib.Math.min.name Lib.Math.min.code 2 (some .int) ∈ lw_tbl := List.mem_append_right _ (List.mem_append_right _ (List.mem_append_left _ (List.mem_of_getElem? (i := 141) rfl)))
set_option maxRecDepth 100000 in
theorem tw_341 : Cond.initialized "java/lang/Math" ∈ lw_tbl := List.mem_append_right _ (List.mem_append_left _ (List.mem_of_getElem? (i := 12) rfl))
set_option maxRecDepth 100000 in
theorem tw_342 : Cond.static Lib.Math.min.name ∈ lw_tbl := List.mem_append_right _ (List.mem_append_right _ (List.mem_append_left _ (List.mem_of_getElem? (i := 140) rfl)))
set_option maxRecDepth 100000 in
theorem tw_343 : Cond.methodLink RX1 67 Lib.Math.min.name ∈ lw_tbl := List.mem_append_right _ (List.mem_append_right _ (List.mem_append_left _ (List.mem_of_getElem? (i := 139) rfl)))
set_option maxRecDepth 100000 in
theorem tw_344 : Cond.code yX1_perform cX1_perform 4 none ∈ lw_tbl := List.mem_append_right _ (List.mem_append_right _ (List.mem_append_left _ (List.mem_of_getElem? (i := 133) rfl)))
set_option maxRecDepth 100000 in
theorem tw_345 : Cond.selects RX1 yX1_perform yX1_perform ∈ lw_tbl := List.mem_append_left _ (List.mem_of_getElem? (i := 5) rfl)
set_option maxRecDepth 100000 in
theorem tw_346 : Cond.instanceMethod yX1_perform ∈ lw_tbl := List.mem_append_right _ (List.mem_append_right _ (List.mem_append_left _ (List.mem_of_getElem? (i := 132) rfl)))
set_option maxRecDepth 100000 in
theorem tw_347 : Cond.methodLink RX1 52 yX1_perform ∈ lw_tbl := List.mem_append_right _ (List.mem_append_right _ (List.mem_append_left _ (List.mem_of_getElem? (i := 130) rfl)))
set_option maxRecDepth 100000 in
theorem lt_wsX8_judge_r5 : ∀ w ∈ wsX8_judge_r5, w ∈ lw_tbl := (List.forall_mem_cons.mpr ⟨tw_117, (List.forall_mem_cons.mpr ⟨tw_138, (List.forall_mem_cons.mpr ⟨tw_137, (List.forall_mem_cons.mpr ⟨tw_136, (List.forall_mem_cons.mpr ⟨tw_347, (List.forall_mem_cons.mpr ⟨tw_346, (List.forall_mem_cons.mpr ⟨tw_345, (List.forall_mem_cons.mpr ⟨tw_344, (List.forall_mem_cons.mpr ⟨tw_343, (List.forall_mem_cons.mpr ⟨tw_342, (List.forall_mem_cons.mpr ⟨tw_341, (List.forall_mem_cons.mpr ⟨tw_340, (List.forall_mem_cons.mpr ⟨tw_339, (List.forall_mem_cons.mpr ⟨tw_338, (List.forall_mem_cons.mpr ⟨tw_337, (List.forall_mem_cons.mpr ⟨tw_336, (List.forall_mem_cons.mpr ⟨tw_335, (List.forall_mem_cons.mpr ⟨tw_162, (List.forall_mem_cons.mpr ⟨tw_161, (List.forall_mem_cons.mpr ⟨tw_160, (List.forall_mem_cons.mpr ⟨tw_334, (List.forall_mem_cons.mpr ⟨tw_193, (List.forall_mem_cons.mpr ⟨tw_192, (List.forall_mem_cons.mpr ⟨tw_191, (fun _ h => absurd h List.not_mem_nil)⟩)⟩)⟩)⟩)⟩)⟩)⟩)⟩)⟩)⟩)⟩)⟩)⟩)⟩)⟩)⟩)⟩)⟩)⟩)⟩)⟩)⟩)⟩)⟩)
set_option maxRecDepth 100000 in
theorem tw_348 : Cond.methodLink RX7 59 yX3_lengthAt ∈ lw_tbl := List.mem_append_right _ (List.mem_append_right _ (List.mem_append_left _ (List.mem_of_getElem? (i := 155) rfl)))
set_option maxRecDepth 100000 in
theorem tw_349 : Cond.code yX7_noteSwept cX7_noteSwept 2 none ∈ lw_tbl := List.mem_append_right _ (List.mem_append_right _ (List.mem_append_left _ (List.mem_of_getElem? (i := 154) rfl)))
set_option maxRecDepth 100000 in
theorem tw_350 : Cond.selects RX7 yX7_noteSwept yX7_noteSwept ∈ lw_tbl := List.mem_append_left _ (List.mem_of_getElem? (i := 8) rfl)
set_option maxRecDepth 100000 in
theorem tw_351 : Cond.instanceMethod yX7_noteSwept ∈ lw_tbl := List.mem_append_right _ (List.mem_append_right _ (List.mem_append_left _ (List.mem_of_getElem? (i := 153) rfl)))
set_option maxRecDepth 100000 in
theorem tw_352 : Cond.methodLink RX7 55 yX7_noteSwept ∈ lw_tbl := List.mem_append_right _ (List.mem_append_right _ (List.mem_append_left _ (List.mem_of_getElem? (i := 151) rfl)))
set_option maxRecDepth 100000 in
theorem tw_353 : Cond.methodLink RX7 51 yX1_isThere ∈ lw_tbl := List.mem_append_right _ (List.mem_append_right _ (List.mem_append_left _ (List.mem_of_getElem? (i := 150) rfl)))
set_option maxRecDepth 100000 in
theorem tw_354 : Cond.code yX1_withoutHighest cX1_withoutHighest 2 (some .int) ∈ lw_tbl := List.mem_append_right _ (List.mem_append_right _ (List.mem_append_left _ (List.mem_of_getElem? (i := 149) rfl)))
set_option maxRecDepth 100000 in
theorem tw_355 : Cond.static yX1_withoutHighest ∈ lw_tbl := List.mem_append_right _ (List.mem_append_right _ (List.mem_append_left _ (List.mem_of_getElem? (i := 148) rfl)))
set_option maxRecDepth 100000 in
theorem tw_356 : Cond.methodLink RX1 83 yX1_withoutHighest ∈ lw_tbl := List.mem_append_right _ (List.mem_append_right _ (List.mem_append_left _ (List.mem_of_getElem? (i := 147) rfl)))
set_option maxRecDepth 100000 in
theorem tw_357 : Cond.code yX1_passYear cX1_passYear 2 none ∈ lw_tbl := List.mem_append_right _ (List.mem_append_right _ (List.mem_append_left _ (List.mem_of_getElem? (i := 146) rfl)))
set_option maxRecDepth 100000 in
theorem tw_358 : Cond.selects RX1 yX1_passYear yX1_passYear ∈ lw_tbl := List.mem_append_left _ (List.mem_of_getElem? (i := 7) rfl)
set_option maxRecDepth 100000 in
theorem tw_359 : Cond.instanceMethod yX1_passYear ∈ lw_tbl := List.mem_append_right _ (List.mem_append_right _ (List.mem_append_left _ (List.mem_of_getElem? (i := 145) rfl)))
set_option maxRecDepth 100000 in
theorem tw_360 : Cond.methodLink RX1 80 yX1_passYear ∈ lw_tbl := List.mem_append_right _ (List.mem_append_right _ (List.mem_append_left _ (List.mem_of_getElem? (i := 143) rfl)))
set_option maxRecDepth 100000 in
theorem lt_wsX8_judge_r6 : ∀ w ∈ wsX8_judge_r6, w ∈ lw_tbl := (List.forall_mem_cons.mpr ⟨tw_360, (List.forall_mem_cons.mpr ⟨tw_359, (List.forall_mem_cons.mpr ⟨tw_358, (List.forall_mem_cons.mpr ⟨tw_357, (List.forall_mem_cons.mpr ⟨tw_356, (List.forall_mem_cons.mpr ⟨tw_355, (List.forall_mem_cons.mpr ⟨tw_354, (List.forall_mem_cons.mpr ⟨tw_353, (List.forall_mem_cons.mpr ⟨tw_352, (List.forall_mem_cons.mpr ⟨tw_351, (List.forall_mem_cons.mpr ⟨tw_350, (List.forall_mem_cons.mpr ⟨tw_349, (List.forall_mem_cons.mpr ⟨tw_348, (fun _ h => absurd h List.not_mem_nil)⟩)⟩)⟩)⟩)⟩)⟩)⟩)⟩)⟩)⟩)⟩)⟩)⟩)
set_option maxRecDepth 100000 in
theorem lt_wsX8_judge : ∀ w ∈ wsX8_judge, w ∈ lw_tbl := (List.forall_mem_cons.mpr ⟨tw_292, (List.forall_mem_append.mpr ⟨(List.forall_mem_append.mpr ⟨(List.forall_mem_append.mpr ⟨(List.forall_mem_append.mpr ⟨(List.forall_mem_append.mpr ⟨lt_wsX8_judge_r1, (List.forall_mem_append.mpr ⟨lt_wsX8_judge_r2, (List.forall_mem_append.mpr ⟨lt_wsX8_judge_r3, (List.forall_mem_append.mpr ⟨lt_wsX8_judge_r4, (List.forall_mem_append.mpr ⟨lt_wsX8_judge_r5, lt_wsX8_judge_r6⟩)⟩)⟩)⟩)⟩), lt_wsX80⟩), lt_wsX70⟩), lt_wsX30⟩), lt_wsX10⟩)⟩)
set_option maxRecDepth 100000 in
theorem tw_361 : Cond.selects RX8 yX8_judge yX8_judge ∈ lw_tbl := List.mem_append_right _ (List.mem_append_right _ (List.mem_append_left _ (List.mem_of_getElem? (i := 97) rfl)))
set_option maxRecDepth 100000 in
theorem tw_362 : Cond.instanceMethod yX8_judge ∈ lw_tbl := List.mem_append_right _ (List.mem_append_right _ (List.mem_append_left _ (List.mem_of_getElem? (i := 96) rfl)))
set_option maxRecDepth 100000 in
theorem tw_363 : Cond.methodLink RL 45 yX8_judge ∈ lw_tbl := List.mem_append_right _ (List.mem_append_right _ (List.mem_append_left _ (List.mem_of_getElem? (i := 95) rfl)))
set_option maxRecDepth 100000 in
theorem tw_364 : Cond.code yX9_judge cX9_judge 3 (some .int) ∈ lw_tbl := List.mem_append_right _ (List.mem_append_right _ (List.mem_append_right _ (List.mem_append_right _ (List.mem_append_left _ (List.mem_of_getElem? (i := 65) rfl)))))
set_option maxRecDepth 100000 in
theorem tw_365 : Cond.methodLink RX9 192 yX9_fault ∈ lw_tbl := List.mem_append_right _ (List.mem_append_right _ (List.mem_append_right _ (List.mem_append_right _ (List.mem_append_left _ (List.mem_of_getElem? (i := 75) rfl)))))
set_option maxRecDepth 100000 in
theorem tw_366 : Cond.fieldLink RX9 135 "HassockSeeModel" "years" "I" ∈ lw_tbl := List.mem_append_right _ (List.mem_append_right _ (List.mem_append_right _ (List.mem_append_left _ (List.mem_of_getElem? (i := 140) rfl))))
set_option maxRecDepth 100000 in
theorem tw_367 : Cond.code yX9_keepNow cX9_keepNow 2 none ∈ lw_tbl := List.mem_append_right _ (List.mem_append_right _ (List.mem_append_right _ (List.mem_append_right _ (List.mem_append_left _ (List.mem_of_getElem? (i := 74) rfl)))))
set_option maxRecDepth 100000 in
theorem tw_368 : Cond.selects RX9 yX9_keepNow yX9_keepNow ∈ lw_tbl := List.mem_append_left _ (List.mem_of_getElem? (i := 28) rfl)
set_option maxRecDepth 100000 in
theorem tw_369 : Cond.instanceMethod yX9_keepNow ∈ lw_tbl := List.mem_append_right _ (List.mem_append_right _ (List.mem_append_right _ (List.mem_append_right _ (List.mem_append_left _ (List.mem_of_getElem? (i := 73) rfl)))))
set_option maxRecDepth 100000 in
theorem tw_370 : Cond.methodLink RX9 189 yX9_keepNow ∈ lw_tbl := List.mem_append_right _ (List.mem_append_right _ (List.mem_append_right _ (List.mem_append_right _ (List.mem_append_left _ (List.mem_of_getElem? (i := 71) rfl)))))
set_option maxRecDepth 100000 in
theorem tw_371 : Cond.code yX9_refusal cX9_refusal 1 (some .int) ∈ lw_tbl := List.mem_append_right _ (List.mem_append_right _ (List.mem_append_right _ (List.mem_append_right _ (List.mem_append_left _ (List.mem_of_getElem? (i := 70) rfl)))))
set_option maxRecDepth 100000 in
theorem tw_372 : Cond.selects RX9 yX9_refusal yX9_refusal ∈ lw_tbl := List.mem_append_left _ (List.mem_of_getElem? (i := 27) rfl)
set_option maxRecDepth 100000 in
theorem tw_373 : Cond.instanceMethod yX9_refusal ∈ lw_tbl := List.mem_append_right _ (List.mem_append_right _ (List.mem_append_right _ (List.mem_append_right _ (List.mem_append_left _ (List.mem_of_getElem? (i := 69) rfl)))))
set_option maxRecDepth 100000 in
theorem tw_374 : Cond.methodLink RX9 201 yX9_refusal ∈ lw_tbl := List.mem_append_right _ (List.mem_append_right _ (List.mem_append_right _ (List.mem_append_right _ (List.mem_append_left _ (List.mem_of_getElem? (i := 67) rfl)))))
set_option maxRecDepth 100000 in
theorem tw_375 : Cond.fieldLink RX9 138 "HassockSeeModel" "sweptMany" "I" ∈ lw_tbl := List.mem_append_right _ (List.mem_append_right _ (List.mem_append_right _ (List.mem_append_left _ (List.mem_of_getElem? (i := 150) rfl))))
set_option maxRecDepth 100000 in
theorem tw_376 : Cond.fieldLink RX9 179 "HassockSeeModel" "badWhy" "I" ∈ lw_tbl := List.mem_append_right _ (List.mem_append_right _ (List.mem_append_right _ (List.mem_append_left _ (List.mem_of_getElem? (i := 153) rfl))))
set_option maxRecDepth 100000 in
theorem tw_377 : Cond.fieldLink RX9 176 "HassockSeeModel" "badAct" "I" ∈ lw_tbl := List.mem_append_right _ (List.mem_append_right _ (List.mem_append_right _ (List.mem_append_left _ (List.mem_of_getElem? (i := 152) rfl))))
set_option maxRecDepth 100000 in
theorem tw_378 : Cond.constantLong RX9 199 (2) ∈ lw_tbl := List.mem_append_right _ (List.mem_append_right _ (List.mem_append_right _ (List.mem_append_right _ (List.mem_append_left _ (List.mem_of_getElem? (i := 66) rfl)))))
set_option maxRecDepth 100000 in
theorem lt_wsX9_judge_r1 : ∀ w ∈ wsX9_judge_r1, w ∈ lw_tbl := (List.forall_mem_cons.mpr ⟨tw_378, (List.forall_mem_cons.mpr ⟨tw_377, (List.forall_mem_cons.mpr ⟨tw_376, (List.forall_mem_cons.mpr ⟨tw_375, (List.forall_mem_cons.mpr ⟨tw_148, (List.forall_mem_cons.mpr ⟨tw_147, (List.forall_mem_cons.mpr ⟨tw_151, (List.forall_mem_cons.mpr ⟨tw_146, (List.forall_mem_cons.mpr ⟨tw_374, (List.forall_mem_cons.mpr ⟨tw_373, (List.forall_mem_cons.mpr ⟨tw_372, (List.forall_mem_cons.mpr ⟨tw_371, (List.forall_mem_cons.mpr ⟨tw_370, (List.forall_mem_cons.mpr ⟨tw_369, (List.forall_mem_cons.mpr ⟨tw_368, (List.forall_mem_cons.mpr ⟨tw_367, (List.forall_mem_cons.mpr ⟨tw_105, (List.forall_mem_cons.mpr ⟨tw_114, (List.forall_mem_cons.mpr ⟨tw_113, (List.forall_mem_cons.mpr ⟨tw_112, (List.forall_mem_cons.mpr ⟨tw_96, (List.forall_mem_cons.mpr ⟨tw_95, (List.forall_mem_cons.mpr ⟨tw_366, (List.forall_mem_cons.mpr ⟨tw_365, (fun _ h => absurd h List.not_mem_nil)⟩)⟩)⟩)⟩)⟩)⟩)⟩)⟩)⟩)⟩)⟩)⟩)⟩)⟩)⟩)⟩)⟩)⟩)⟩)⟩)⟩)⟩)⟩)⟩)
set_option maxRecDepth 100000 in
theorem lt_wsX9_judge_r2 : ∀ w ∈ wsX9_judge_r2, w ∈ lw_tbl := (List.forall_mem_cons.mpr ⟨tw_290, (List.forall_mem_cons.mpr ⟨tw_289, (List.forall_mem_cons.mpr ⟨tw_262, (List.forall_mem_cons.mpr ⟨tw_279, (List.forall_mem_cons.mpr ⟨tw_217, (List.forall_mem_cons.mpr ⟨tw_109, (List.forall_mem_cons.mpr ⟨tw_278, (List.forall_mem_cons.mpr ⟨tw_277, (List.forall_mem_cons.mpr ⟨tw_276, (List.forall_mem_cons.mpr ⟨tw_275, (List.forall_mem_cons.mpr ⟨tw_274, (List.forall_mem_cons.mpr ⟨tw_273, (List.forall_mem_cons.mpr ⟨tw_272, (List.forall_mem_cons.mpr ⟨tw_271, (List.forall_mem_cons.mpr ⟨tw_270, (List.forall_mem_cons.mpr ⟨tw_269, (List.forall_mem_cons.mpr ⟨tw_107, (List.forall_mem_cons.mpr ⟨tw_268, (List.forall_mem_cons.mpr ⟨tw_267, (List.forall_mem_cons.mpr ⟨tw_266, (List.forall_mem_cons.mpr ⟨tw_265, (List.forall_mem_cons.mpr ⟨tw_264, (List.forall_mem_cons.mpr ⟨tw_263, (List.forall_mem_cons.mpr ⟨tw_288, (fun _ h => absurd h List.not_mem_nil)⟩)⟩)⟩)⟩)⟩)⟩)⟩)⟩)⟩)⟩)⟩)⟩)⟩)⟩)⟩)⟩)⟩)⟩)⟩)⟩)⟩)⟩)⟩)⟩)
set_option maxRecDepth 100000 in
theorem tw_379 : Cond.methodLink RX9 186 yX9_goOne ∈ lw_tbl := List.mem_append_right _ (List.mem_append_right _ (List.mem_append_right _ (List.mem_append_right _ (List.mem_append_left _ (List.mem_of_getElem? (i := 84) rfl)))))
set_option maxRecDepth 100000 in
theorem tw_380 : Cond.code yX9_whyNot cX9_whyNot 5 (some .int) ∈ lw_tbl := List.mem_append_right _ (List.mem_append_right _ (List.mem_append_right _ (List.mem_append_right _ (List.mem_append_left _ (List.mem_of_getElem? (i := 83) rfl)))))
set_option maxRecDepth 100000 in
theorem tw_381 : Cond.selects RX9 yX9_whyNot yX9_whyNot ∈ lw_tbl := List.mem_append_left _ (List.mem_of_getElem? (i := 30) rfl)
set_option maxRecDepth 100000 in
theorem tw_382 : Cond.instanceMethod yX9_whyNot ∈ lw_tbl := List.mem_append_right _ (List.mem_append_right _ (List.mem_append_right _ (List.mem_append_right _ (List.mem_append_left _ (List.mem_of_getElem? (i := 82) rfl)))))
set_option maxRecDepth 100000 in
theorem tw_383 : Cond.methodLink RX9 182 yX9_whyNot ∈ lw_tbl := List.mem_append_right _ (List.mem_append_right _ (List.mem_append_right _ (List.mem_append_right _ (List.mem_append_left _ (List.mem_of_getElem? (i := 80) rfl)))))
set_option maxRecDepth 100000 in
theorem tw_384 : Cond.fieldLink RX9 173 "HassockSeeModel" "sweptWhich" "I" ∈ lw_tbl := List.mem_append_right _ (List.mem_append_right _ (List.mem_append_right _ (List.mem_append_left _ (List.mem_of_getElem? (i := 155) rfl))))
set_option maxRecDepth 100000 in
theorem tw_385 : Cond.fieldLink RX9 170 "HassockSeeModel" "sweptAct" "I" ∈ lw_tbl := List.mem_append_right _ (List.mem_append_right _ (List.mem_append_right _ (List.mem_append_left _ (List.mem_of_getElem? (i := 154) rfl))))
set_option maxRecDepth 100000 in
theorem tw_386 : Cond.code yX9_goYears cX9_goYears 3 none ∈ lw_tbl := List.mem_append_right _ (List.mem_append_right _ (List.mem_append_right _ (List.mem_append_right _ (List.mem_append_left _ (List.mem_of_getElem? (i := 79) rfl)))))
set_option maxRecDepth 100000 in
theorem tw_387 : Cond.selects RX9 yX9_goYears yX9_goYears ∈ lw_tbl := List.mem_append_left _ (List.mem_of_getElem? (i := 29) rfl)
set_option maxRecDepth 100000 in
theorem tw_388 : Cond.instanceMethod yX9_goYears ∈ lw_tbl := List.mem_append_right _ (List.mem_append_right _ (List.mem_append_right _ (List.mem_append_right _ (List.mem_append_left _ (List.mem_of_getElem? (i := 78) rfl)))))
set_option maxRecDepth 100000 in
theorem tw_389 : Cond.methodLink RX9 196 yX9_goYears ∈ lw_tbl := List.mem_append_right _ (List.mem_append_right _ (List.mem_append_right _ (List.mem_append_right _ (List.mem_append_left _ (List.mem_of_getElem? (i := 76) rfl)))))
set_option maxRecDepth 100000 in
theorem lt_wsX9_judge_r3 : ∀ w ∈ wsX9_judge_r3, w ∈ lw_tbl := (List.forall_mem_cons.mpr ⟨tw_287, (List.forall_mem_cons.mpr ⟨tw_286, (List.forall_mem_cons.mpr ⟨tw_108, (List.forall_mem_cons.mpr ⟨tw_106, (List.forall_mem_cons.mpr ⟨tw_285, (List.forall_mem_cons.mpr ⟨tw_284, (List.forall_mem_cons.mpr ⟨tw_283, (List.forall_mem_cons.mpr ⟨tw_282, (List.forall_mem_cons.mpr ⟨tw_281, (List.forall_mem_cons.mpr ⟨tw_280, (List.forall_mem_cons.mpr ⟨tw_389, (List.forall_mem_cons.mpr ⟨tw_388, (List.forall_mem_cons.mpr ⟨tw_387, (List.forall_mem_cons.mpr ⟨tw_386, (List.forall_mem_cons.mpr ⟨tw_385, (List.forall_mem_cons.mpr ⟨tw_384, (List.forall_mem_cons.mpr ⟨tw_383, (List.forall_mem_cons.mpr ⟨tw_382, (List.forall_mem_cons.mpr ⟨tw_381, (List.forall_mem_cons.mpr ⟨tw_380, (List.forall_mem_cons.mpr ⟨tw_176, (List.forall_mem_cons.mpr ⟨tw_175, (List.forall_mem_cons.mpr ⟨tw_174, (List.forall_mem_cons.mpr ⟨tw_379, (fun _ h => absurd h List.not_mem_nil)⟩)⟩)⟩)⟩)⟩)⟩)⟩)⟩)⟩)⟩)⟩)⟩)⟩)⟩)⟩)⟩)⟩)⟩)⟩)⟩)⟩)⟩)⟩)⟩)
set_option maxRecDepth 100000 in
theorem tw_390 : Cond.code yX9_unite cX9_unite 3 none ∈ lw_tbl := List.mem_append_right _ (List.mem_append_right _ (List.mem_append_right _ (List.mem_append_right _ (List.mem_append_left _ (List.mem_of_getElem? (i := 106) rfl)))))
set_option maxRecDepth 100000 in
theorem tw_391 : Cond.selects RX9 yX9_unite yX9_unite ∈ lw_tbl := List.mem_append_left _ (List.mem_of_getElem? (i := 35) rfl)
set_option maxRecDepth 100000 in
theorem tw_392 : Cond.instanceMethod yX9_unite ∈ lw_tbl := List.mem_append_right _ (List.mem_append_right _ (List.mem_append_right _ (List.mem_append_right _ (List.mem_append_left _ (List.mem_of_getElem? (i := 105) rfl)))))
set_option maxRecDepth 100000 in
theorem tw_393 : Cond.methodLink RX9 157 yX9_unite ∈ lw_tbl := List.mem_append_right _ (List.mem_append_right _ (List.mem_append_right _ (List.mem_append_right _ (List.mem_append_left _ (List.mem_of_getElem? (i := 103) rfl)))))
set_option maxRecDepth 100000 in
theorem tw_394 : Cond.code yX9_less cX9_less 2 (some .int) ∈ lw_tbl := List.mem_append_right _ (List.mem_append_right _ (List.mem_append_right _ (List.mem_append_right _ (List.mem_append_left _ (List.mem_of_getElem? (i := 102) rfl)))))
set_option maxRecDepth 100000 in
theorem tw_395 : Cond.static yX9_less ∈ lw_tbl := List.mem_append_right _ (List.mem_append_right _ (List.mem_append_right _ (List.mem_append_right _ (List.mem_append_left _ (List.mem_of_getElem? (i := 101) rfl)))))
set_option maxRecDepth 100000 in
theorem tw_396 : Cond.methodLink RX9 141 yX9_less ∈ lw_tbl := List.mem_append_right _ (List.mem_append_right _ (List.mem_append_right _ (List.mem_append_right _ (List.mem_append_left _ (List.mem_of_getElem? (i := 100) rfl)))))
set_option maxRecDepth 100000 in
theorem tw_397 : Cond.code yX9_stuff cX9_stuff 2 none ∈ lw_tbl := List.mem_append_right _ (List.mem_append_right _ (List.mem_append_right _ (List.mem_append_right _ (List.mem_append_left _ (List.mem_of_getElem? (i := 99) rfl)))))
set_option maxRecDepth 100000 in
theorem tw_398 : Cond.selects RX9 yX9_stuff yX9_stuff ∈ lw_tbl := List.mem_append_left _ (List.mem_of_getElem? (i := 34) rfl)
set_option maxRecDepth 100000 in
theorem tw_399 : Cond.instanceMethod yX9_stuff ∈ lw_tbl := List.mem_append_right _ (List.mem_append_right _ (List.mem_append_right _ (List.mem_append_right _ (List.mem_append_left _ (List.mem_of_getElem? (i := 98) rfl)))))
set_option maxRecDepth 100000 in
theorem tw_400 : Cond.methodLink RX9 154 yX9_stuff ∈ lw_tbl := List.mem_append_right _ (List.mem_append_right _ (List.mem_append_right _ (List.mem_append_right _ (List.mem_append_left _ (List.mem_of_getElem? (i := 96) rfl)))))
set_option maxRecDepth 100000 in
theorem tw_401 : Cond.code yX9_kneel cX9_kneel 3 none ∈ lw_tbl := List.mem_append_right _ (List.mem_append_right _ (List.mem_append_right _ (List.mem_append_right _ (List.mem_append_left _ (List.mem_of_getElem? (i := 95) rfl)))))
set_option maxRecDepth 100000 in
theorem tw_402 : Cond.selects RX9 yX9_kneel yX9_kneel ∈ lw_tbl := List.mem_append_left _ (List.mem_of_getElem? (i := 33) rfl)
set_option maxRecDepth 100000 in
theorem tw_403 : Cond.instanceMethod yX9_kneel ∈ lw_tbl := List.mem_append_right _ (List.mem_append_right _ (List.mem_append_right _ (List.mem_append_right _ (List.mem_append_left _ (List.mem_of_getElem? (i := 94) rfl)))))
set_option maxRecDepth 100000 in
theorem tw_404 : Cond.methodLink RX9 151 yX9_kneel ∈ lw_tbl := List.mem_append_right _ (List.mem_append_right _ (List.mem_append_right _ (List.mem_append_right _ (List.mem_append_left _ (List.mem_of_getElem? (i := 92) rfl)))))
set_option maxRecDepth 100000 in
theorem tw_405 : Cond.code yX9_happen cX9_happen 4 none ∈ lw_tbl := List.mem_append_right _ (List.mem_append_right _ (List.mem_append_right _ (List.mem_append_right _ (List.mem_append_left _ (List.mem_of_getElem? (i := 91) rfl)))))
set_option maxRecDepth 100000 in
theorem tw_406 : Cond.selects RX9 yX9_happen yX9_happen ∈ lw_tbl := List.mem_append_left _ (List.mem_of_getElem? (i := 32) rfl)
set_option maxRecDepth 100000 in
theorem tw_407 : Cond.instanceMethod yX9_happen ∈ lw_tbl := List.mem_append_right _ (List.mem_append_right _ (List.mem_append_right _ (List.mem_append_right _ (List.mem_append_left _ (List.mem_of_getElem? (i := 90) rfl)))))
set_option maxRecDepth 100000 in
theorem tw_408 : Cond.methodLink RX9 166 yX9_happen ∈ lw_tbl := List.mem_append_right _ (List.mem_append_right _ (List.mem_append_right _ (List.mem_append_right _ (List.mem_append_left _ (List.mem_of_getElem? (i := 88) rfl)))))
set_option maxRecDepth 100000 in
theorem tw_409 : Cond.code yX9_goOne cX9_goOne 3 none ∈ lw_tbl := List.mem_append_right _ (List.mem_append_right _ (List.mem_append_right _ (List.mem_append_right _ (List.mem_append_left _ (List.mem_of_getElem? (i := 87) rfl)))))
set_option maxRecDepth 100000 in
theorem tw_410 : Cond.selects RX9 yX9_goOne yX9_goOne ∈ lw_tbl := List.mem_append_left _ (List.mem_of_getElem? (i := 31) rfl)
set_option maxRecDepth 100000 in
theorem tw_411 : Cond.instanceMethod yX9_goOne ∈ lw_tbl := List.mem_append_right _ (List.mem_append_right _ (List.mem_append_right _ (List.mem_append_right _ (List.mem_append_left _ (List.mem_of_getElem? (i := 86) rfl)))))
set_option maxRecDepth 100000 in
theorem lt_wsX9_judge_r4 : ∀ w ∈ wsX9_judge_r4, w ∈ lw_tbl := (List.forall_mem_cons.mpr ⟨tw_411, (List.forall_mem_cons.mpr ⟨tw_410, (List.forall_mem_cons.mpr ⟨tw_409, (List.forall_mem_cons.mpr ⟨tw_408, (List.forall_mem_cons.mpr ⟨tw_407, (List.forall_mem_cons.mpr ⟨tw_406, (List.forall_mem_cons.mpr ⟨tw_405, (List.forall_mem_cons.mpr ⟨tw_404, (List.forall_mem_cons.mpr ⟨tw_403, (List.forall_mem_cons.mpr ⟨tw_402, (List.forall_mem_cons.mpr ⟨tw_401, (List.forall_mem_cons.mpr ⟨tw_400, (List.forall_mem_cons.mpr ⟨tw_399, (List.forall_mem_cons.mpr ⟨tw_398, (List.forall_mem_cons.mpr ⟨tw_397, (List.forall_mem_cons.mpr ⟨tw_396, (List.forall_mem_cons.mpr ⟨tw_395, (List.forall_mem_cons.mpr ⟨tw_394, (List.forall_mem_cons.mpr ⟨tw_393, (List.forall_mem_cons.mpr ⟨tw_392, (List.forall_mem_cons.mpr ⟨tw_391, (List.forall_mem_cons.mpr ⟨tw_390, (List.forall_mem_cons.mpr ⟨tw_203, (List.forall_mem_cons.mpr ⟨tw_202, (fun _ h => absurd h List.not_mem_nil)⟩)⟩)⟩)⟩)⟩)⟩)⟩)⟩)⟩)⟩)⟩)⟩)⟩)⟩)⟩)⟩)⟩)⟩)⟩)⟩)⟩)⟩)⟩)⟩)
set_option maxRecDepth 100000 in
theorem tw_412 : Cond.code yX9_back cX9_back 3 (some .int) ∈ lw_tbl := List.mem_append_right _ (List.mem_append_right _ (List.mem_append_right _ (List.mem_append_right _ (List.mem_append_left _ (List.mem_of_getElem? (i := 126) rfl)))))
set_option maxRecDepth 100000 in
theorem tw_413 : Cond.selects RX9 yX9_back yX9_back ∈ lw_tbl := List.mem_append_left _ (List.mem_of_getElem? (i := 40) rfl)
set_option maxRecDepth 100000 in
theorem tw_414 : Cond.instanceMethod yX9_back ∈ lw_tbl := List.mem_append_right _ (List.mem_append_right _ (List.mem_append_right _ (List.mem_append_right _ (List.mem_append_left _ (List.mem_of_getElem? (i := 125) rfl)))))
set_option maxRecDepth 100000 in
theorem tw_415 : Cond.methodLink RX9 204 yX9_back ∈ lw_tbl := List.mem_append_right _ (List.mem_append_right _ (List.mem_append_right _ (List.mem_append_right _ (List.mem_append_left _ (List.mem_of_getElem? (i := 123) rfl)))))
set_option maxRecDepth 100000 in
theorem tw_416 : Cond.code yX9_withoutHighest cX9_withoutHighest 4 (some .int) ∈ lw_tbl := List.mem_append_right _ (List.mem_append_right _ (List.mem_append_right _ (List.mem_append_right _ (List.mem_append_left _ (List.mem_of_getElem? (i := 122) rfl)))))
set_option maxRecDepth 100000 in
theorem tw_417 : Cond.selects RX9 yX9_withoutHighest yX9_withoutHighest ∈ lw_tbl := List.mem_append_left _ (List.mem_of_getElem? (i := 39) rfl)
set_option maxRecDepth 100000 in
theorem tw_418 : Cond.instanceMethod yX9_withoutHighest ∈ lw_tbl := List.mem_append_right _ (List.mem_append_right _ (List.mem_append_right _ (List.mem_append_right _ (List.mem_append_left _ (List.mem_of_getElem? (i := 121) rfl)))))
set_option maxRecDepth 100000 in
theorem tw_419 : Cond.methodLink RX9 144 yX9_withoutHighest ∈ lw_tbl := List.mem_append_right _ (List.mem_append_right _ (List.mem_append_right _ (List.mem_append_right _ (List.mem_append_left _ (List.mem_of_getElem? (i := 119) rfl)))))
set_option maxRecDepth 100000 in
theorem tw_420 : Cond.code yX9_passOne cX9_passOne 2 none ∈ lw_tbl := List.mem_append_right _ (List.mem_append_right _ (List.mem_append_right _ (List.mem_append_right _ (List.mem_append_left _ (List.mem_of_getElem? (i := 118) rfl)))))
set_option maxRecDepth 100000 in
theorem tw_421 : Cond.selects RX9 yX9_passOne yX9_passOne ∈ lw_tbl := List.mem_append_left _ (List.mem_of_getElem? (i := 38) rfl)
set_option maxRecDepth 100000 in
theorem tw_422 : Cond.instanceMethod yX9_passOne ∈ lw_tbl := List.mem_append_right _ (List.mem_append_right _ (List.mem_append_right _ (List.mem_append_right _ (List.mem_append_left _ (List.mem_of_getElem? (i := 117) rfl)))))
set_option maxRecDepth 100000 in
theorem tw_423 : Cond.methodLink RX9 147 yX9_passOne ∈ lw_tbl := List.mem_append_right _ (List.mem_append_right _ (List.mem_append_right _ (List.mem_append_right _ (List.mem_append_left _ (List.mem_of_getElem? (i := 115) rfl)))))
set_option maxRecDepth 100000 in
theorem tw_424 : Cond.code yX9_passYear cX9_passYear 2 none ∈ lw_tbl := List.mem_append_right _ (List.mem_append_right _ (List.mem_append_right _ (List.mem_append_right _ (List.mem_append_left _ (List.mem_of_getElem? (i := 114) rfl)))))
set_option maxRecDepth 100000 in
theorem tw_425 : Cond.selects RX9 yX9_passYear yX9_passYear ∈ lw_tbl := List.mem_append_left _ (List.mem_of_getElem? (i := 37) rfl)
set_option maxRecDepth 100000 in
theorem tw_426 : Cond.instanceMethod yX9_passYear ∈ lw_tbl := List.mem_append_right _ (List.mem_append_right _ (List.mem_append_right _ (List.mem_append_right _ (List.mem_append_left _ (List.mem_of_getElem? (i := 113) rfl)))))
set_option maxRecDepth 100000 in
theorem tw_427 : Cond.methodLink RX9 163 yX9_passYear ∈ lw_tbl := List.mem_append_right _ (List.mem_append_right _ (List.mem_append_right _ (List.mem_append_right _ (List.mem_append_left _ (List.mem_of_getElem? (i := 111) rfl)))))
set_option maxRecDepth 100000 in
theorem tw_428 : Cond.code yX9_sell cX9_sell 2 none ∈ lw_tbl := List.mem_append_right _ (List.mem_append_right _ (List.mem_append_right _ (List.mem_append_right _ (List.mem_append_left _ (List.mem_of_getElem? (i := 110) rfl)))))
set_option maxRecDepth 100000 in
theorem tw_429 : Cond.selects RX9 yX9_sell yX9_sell ∈ lw_tbl := List.mem_append_left _ (List.mem_of_getElem? (i := 36) rfl)
set_option maxRecDepth 100000 in
theorem tw_430 : Cond.instanceMethod yX9_sell ∈ lw_tbl := List.mem_append_right _ (List.mem_append_right _ (List.mem_append_right _ (List.mem_append_right _ (List.mem_append_left _ (List.mem_of_getElem? (i := 109) rfl)))))
set_option maxRecDepth 100000 in
theorem tw_431 : Cond.methodLink RX9 160 yX9_sell ∈ lw_tbl := List.mem_append_right _ (List.mem_append_right _ (List.mem_append_right _ (List.mem_append_right _ (List.mem_append_left _ (List.mem_of_getElem? (i := 107) rfl)))))
set_option maxRecDepth 100000 in
theorem lt_wsX9_judge_r5 : ∀ w ∈ wsX9_judge_r5, w ∈ lw_tbl := (List.forall_mem_cons.mpr ⟨tw_201, (List.forall_mem_cons.mpr ⟨tw_200, (List.forall_mem_cons.mpr ⟨tw_431, (List.forall_mem_cons.mpr ⟨tw_430, (List.forall_mem_cons.mpr ⟨tw_429, (List.forall_mem_cons.mpr ⟨tw_428, (List.forall_mem_cons.mpr ⟨tw_427, (List.forall_mem_cons.mpr ⟨tw_426, (List.forall_mem_cons.mpr ⟨tw_425, (List.forall_mem_cons.mpr ⟨tw_424, (List.forall_mem_cons.mpr ⟨tw_423, (List.forall_mem_cons.mpr ⟨tw_422, (List.forall_mem_cons.mpr ⟨tw_421, (List.forall_mem_cons.mpr ⟨tw_420, (List.forall_mem_cons.mpr ⟨tw_419, (List.forall_mem_cons.mpr ⟨tw_418, (List.forall_mem_cons.mpr ⟨tw_417, (List.forall_mem_cons.mpr ⟨tw_416, (List.forall_mem_cons.mpr ⟨tw_415, (List.forall_mem_cons.mpr ⟨tw_414, (List.forall_mem_cons.mpr ⟨tw_413, (List.forall_mem_cons.mpr ⟨tw_412, (fun _ h => absurd h List.not_mem_nil)⟩)⟩)⟩)⟩)⟩)⟩)⟩)⟩)⟩)⟩)⟩)⟩)⟩)⟩)⟩)⟩)⟩)⟩)⟩)⟩)⟩)⟩)
set_option maxRecDepth 100000 in
theorem lt_wsX9_judge : ∀ w ∈ wsX9_judge, w ∈ lw_tbl := (List.forall_mem_cons.mpr ⟨tw_364, (List.forall_mem_append.mpr ⟨(List.forall_mem_append.mpr ⟨lt_wsX9_judge_r1, (List.forall_mem_append.mpr ⟨lt_wsX9_judge_r2, (List.forall_mem_append.mpr ⟨lt_wsX9_judge_r3, (List.forall_mem_append.mpr ⟨lt_wsX9_judge_r4, lt_wsX9_judge_r5⟩)⟩)⟩)⟩), lt_wsX90⟩)⟩)
set_option maxRecDepth 100000 in
theorem tw_432 : Cond.selects RX9 yX9_judge yX9_judge ∈ lw_tbl := List.mem_append_right _ (List.mem_append_right _ (List.mem_append_right _ (List.mem_append_right _ (List.mem_append_left _ (List.mem_of_getElem? (i := 64) rfl)))))
set_option maxRecDepth 100000 in
theorem tw_433 : Cond.instanceMethod yX9_judge ∈ lw_tbl := List.mem_append_right _ (List.mem_append_right _ (List.mem_append_right _ (List.mem_append_right _ (List.mem_append_left _ (List.mem_of_getElem? (i := 63) rfl)))))
set_option maxRecDepth 100000 in
theorem tw_434 : Cond.methodLink RL 48 yX9_judge ∈ lw_tbl := List.mem_append_right _ (List.mem_append_right _ (List.mem_append_right _ (List.mem_append_right _ (List.mem_append_left _ (List.mem_of_getElem? (i := 62) rfl)))))
set_option maxRecDepth 100000 in
theorem tw_435 : Cond.code yX8_behind cX8_behind 4 (some .int) ∈ lw_tbl := List.mem_append_right _ (List.mem_append_right _ (List.mem_append_left _ (List.mem_of_getElem? (i := 159) rfl)))
set_option maxRecDepth 100000 in
theorem tw_436 : Cond.fieldLink RX8 133 "HassockSee$Diocese" "stitches" "[I" ∈ lw_tbl := List.mem_append_right _ (List.mem_append_left _ (List.mem_of_getElem? (i := 39) rfl))
set_option maxRecDepth 100000 in
theorem tw_437 : Cond.fieldLink RX8 130 "HassockSee$Diocese" "wool" "[I" ∈ lw_tbl := List.mem_append_right _ (List.mem_append_left _ (List.mem_of_getElem? (i := 35) rfl))
set_option maxRecDepth 100000 in
theorem lt_wsX8_behind_r1 : ∀ w ∈ wsX8_behind_r1, w ∈ lw_tbl := (List.forall_mem_cons.mpr ⟨tw_17, (List.forall_mem_cons.mpr ⟨tw_195, (List.forall_mem_cons.mpr ⟨tw_437, (List.forall_mem_cons.mpr ⟨tw_436, (List.forall_mem_cons.mpr ⟨tw_135, (List.forall_mem_cons.mpr ⟨tw_134, (List.forall_mem_cons.mpr ⟨tw_133, (List.forall_mem_cons.mpr ⟨tw_132, (List.forall_mem_cons.mpr ⟨tw_131, (List.forall_mem_cons.mpr ⟨tw_130, (List.forall_mem_cons.mpr ⟨tw_129, (List.forall_mem_cons.mpr ⟨tw_296, (List.forall_mem_cons.mpr ⟨tw_295, (List.forall_mem_cons.mpr ⟨tw_294, (List.forall_mem_cons.mpr ⟨tw_293, (List.forall_mem_cons.mpr ⟨tw_13, (List.forall_mem_cons.mpr ⟨tw_18, (List.forall_mem_cons.mpr ⟨tw_9, (List.forall_mem_cons.mpr ⟨tw_299, (List.forall_mem_cons.mpr ⟨tw_252, (List.forall_mem_cons.mpr ⟨tw_251, (List.forall_mem_cons.mpr ⟨tw_250, (List.forall_mem_cons.mpr ⟨tw_14, (List.forall_mem_cons.mpr ⟨tw_249, (fun _ h => absurd h List.not_mem_nil)⟩)⟩)⟩)⟩)⟩)⟩)⟩)⟩)⟩)⟩)⟩)⟩)⟩)⟩)⟩)⟩)⟩)⟩)⟩)⟩)⟩)⟩)⟩)⟩)
set_option maxRecDepth 100000 in
theorem lt_wsX8_behind_r2 : ∀ w ∈ wsX8_behind_r2, w ∈ lw_tbl := (List.forall_mem_cons.mpr ⟨tw_69, (List.forall_mem_cons.mpr ⟨tw_248, (List.forall_mem_cons.mpr ⟨tw_247, (List.forall_mem_cons.mpr ⟨tw_246, (List.forall_mem_cons.mpr ⟨tw_245, (List.forall_mem_cons.mpr ⟨tw_244, (List.forall_mem_cons.mpr ⟨tw_243, (List.forall_mem_cons.mpr ⟨tw_242, (List.forall_mem_cons.mpr ⟨tw_241, (List.forall_mem_cons.mpr ⟨tw_68, (List.forall_mem_cons.mpr ⟨tw_240, (List.forall_mem_cons.mpr ⟨tw_239, (List.forall_mem_cons.mpr ⟨tw_238, (List.forall_mem_cons.mpr ⟨tw_237, (List.forall_mem_cons.mpr ⟨tw_236, (List.forall_mem_cons.mpr ⟨tw_258, (List.forall_mem_cons.mpr ⟨tw_257, (List.forall_mem_cons.mpr ⟨tw_256, (List.forall_mem_cons.mpr ⟨tw_255, (List.forall_mem_cons.mpr ⟨tw_254, (List.forall_mem_cons.mpr ⟨tw_253, (List.forall_mem_cons.mpr ⟨tw_303, (List.forall_mem_cons.mpr ⟨tw_302, (List.forall_mem_cons.mpr ⟨tw_301, (fun _ h => absurd h List.not_mem_nil)⟩)⟩)⟩)⟩)⟩)⟩)⟩)⟩)⟩)⟩)⟩)⟩)⟩)⟩)⟩)⟩)⟩)⟩)⟩)⟩)⟩)⟩)⟩)⟩)
set_option maxRecDepth 100000 in
theorem lt_wsX8_behind_r3 : ∀ w ∈ wsX8_behind_r3, w ∈ lw_tbl := (List.forall_mem_cons.mpr ⟨tw_19, (List.forall_mem_cons.mpr ⟨tw_300, (List.forall_mem_cons.mpr ⟨tw_31, (List.forall_mem_cons.mpr ⟨tw_30, (List.forall_mem_cons.mpr ⟨tw_29, (List.forall_mem_cons.mpr ⟨tw_27, (List.forall_mem_cons.mpr ⟨tw_26, (List.forall_mem_cons.mpr ⟨tw_25, (List.forall_mem_cons.mpr ⟨tw_322, (List.forall_mem_cons.mpr ⟨tw_321, (List.forall_mem_cons.mpr ⟨tw_320, (List.forall_mem_cons.mpr ⟨tw_10, (List.forall_mem_cons.mpr ⟨tw_319, (List.forall_mem_cons.mpr ⟨tw_318, (List.forall_mem_cons.mpr ⟨tw_317, (List.forall_mem_cons.mpr ⟨tw_316, (List.forall_mem_cons.mpr ⟨tw_315, (List.forall_mem_cons.mpr ⟨tw_314, (List.forall_mem_cons.mpr ⟨tw_313, (List.forall_mem_cons.mpr ⟨tw_312, (List.forall_mem_cons.mpr ⟨tw_311, (List.forall_mem_cons.mpr ⟨tw_310, (List.forall_mem_cons.mpr ⟨tw_309, (List.forall_mem_cons.mpr ⟨tw_308, (fun _ h => absurd h List.not_mem_nil)⟩)⟩)⟩)⟩)⟩)⟩)⟩)⟩)⟩)⟩)⟩)⟩)⟩)⟩)⟩)⟩)⟩)⟩)⟩)⟩)⟩)⟩)⟩)⟩)
set_option maxRecDepth 100000 in
theorem lt_wsX8_behind_r4 : ∀ w ∈ wsX8_behind_r4, w ∈ lw_tbl := (List.forall_mem_cons.mpr ⟨tw_307, (List.forall_mem_cons.mpr ⟨tw_306, (List.forall_mem_cons.mpr ⟨tw_305, (List.forall_mem_cons.mpr ⟨tw_304, (List.forall_mem_cons.mpr ⟨tw_333, (List.forall_mem_cons.mpr ⟨tw_332, (List.forall_mem_cons.mpr ⟨tw_331, (List.forall_mem_cons.mpr ⟨tw_330, (List.forall_mem_cons.mpr ⟨tw_329, (List.forall_mem_cons.mpr ⟨tw_328, (List.forall_mem_cons.mpr ⟨tw_327, (List.forall_mem_cons.mpr ⟨tw_326, (List.forall_mem_cons.mpr ⟨tw_325, (List.forall_mem_cons.mpr ⟨tw_324, (List.forall_mem_cons.mpr ⟨tw_168, (List.forall_mem_cons.mpr ⟨tw_167, (List.forall_mem_cons.mpr ⟨tw_166, (List.forall_mem_cons.mpr ⟨tw_165, (List.forall_mem_cons.mpr ⟨tw_164, (List.forall_mem_cons.mpr ⟨tw_323, (List.forall_mem_cons.mpr ⟨tw_123, (List.forall_mem_cons.mpr ⟨tw_122, (List.forall_mem_cons.mpr ⟨tw_121, (List.forall_mem_cons.mpr ⟨tw_120, (fun _ h => absurd h List.not_mem_nil)⟩)⟩)⟩)⟩)⟩)⟩)⟩)⟩)⟩)⟩)⟩)⟩)⟩)⟩)⟩)⟩)⟩)⟩)⟩)⟩)⟩)⟩)⟩)⟩)
set_option maxRecDepth 100000 in
theorem lt_wsX8_behind_r5 : ∀ w ∈ wsX8_behind_r5, w ∈ lw_tbl := (List.forall_mem_cons.mpr ⟨tw_119, (List.forall_mem_cons.mpr ⟨tw_118, (List.forall_mem_cons.mpr ⟨tw_117, (List.forall_mem_cons.mpr ⟨tw_138, (List.forall_mem_cons.mpr ⟨tw_137, (List.forall_mem_cons.mpr ⟨tw_136, (List.forall_mem_cons.mpr ⟨tw_347, (List.forall_mem_cons.mpr ⟨tw_346, (List.forall_mem_cons.mpr ⟨tw_345, (List.forall_mem_cons.mpr ⟨tw_344, (List.forall_mem_cons.mpr ⟨tw_343, (List.forall_mem_cons.mpr ⟨tw_342, (List.forall_mem_cons.mpr ⟨tw_341, (List.forall_mem_cons.mpr ⟨tw_340, (List.forall_mem_cons.mpr ⟨tw_339, (List.forall_mem_cons.mpr ⟨tw_338, (List.forall_mem_cons.mpr ⟨tw_337, (List.forall_mem_cons.mpr ⟨tw_336, (List.forall_mem_cons.mpr ⟨tw_335, (List.forall_mem_cons.mpr ⟨tw_162, (List.forall_mem_cons.mpr ⟨tw_161, (List.forall_mem_cons.mpr ⟨tw_160, (List.forall_mem_cons.mpr ⟨tw_334, (List.forall_mem_cons.mpr ⟨tw_193, (fun _ h => absurd h List.not_mem_nil)⟩)⟩)⟩)⟩)⟩)⟩)⟩)⟩)⟩)⟩)⟩)⟩)⟩)⟩)⟩)⟩)⟩)⟩)⟩)⟩)⟩)⟩)⟩)⟩)
set_option maxRecDepth 100000 in
theorem lt_wsX8_behind_r6 : ∀ w ∈ wsX8_behind_r6, w ∈ lw_tbl := (List.forall_mem_cons.mpr ⟨tw_192, (List.forall_mem_cons.mpr ⟨tw_191, (List.forall_mem_cons.mpr ⟨tw_360, (List.forall_mem_cons.mpr ⟨tw_359, (List.forall_mem_cons.mpr ⟨tw_358, (List.forall_mem_cons.mpr ⟨tw_357, (List.forall_mem_cons.mpr ⟨tw_356, (List.forall_mem_cons.mpr ⟨tw_355, (List.forall_mem_cons.mpr ⟨tw_354, (List.forall_mem_cons.mpr ⟨tw_353, (List.forall_mem_cons.mpr ⟨tw_352, (List.forall_mem_cons.mpr ⟨tw_351, (List.forall_mem_cons.mpr ⟨tw_350, (List.forall_mem_cons.mpr ⟨tw_349, (List.forall_mem_cons.mpr ⟨tw_348, (List.forall_mem_cons.mpr ⟨tw_169, (fun _ h => absurd h List.not_mem_nil)⟩)⟩)⟩)⟩)⟩)⟩)⟩)⟩)⟩)⟩)⟩)⟩)⟩)⟩)⟩)⟩)
set_option maxRecDepth 100000 in
theorem lt_wsX8_behind : ∀ w ∈ wsX8_behind, w ∈ lw_tbl := (List.forall_mem_cons.mpr ⟨tw_435, (List.forall_mem_append.mpr ⟨(List.forall_mem_append.mpr ⟨(List.forall_mem_append.mpr ⟨(List.forall_mem_append.mpr ⟨(List.forall_mem_append.mpr ⟨lt_wsX8_behind_r1, (List.forall_mem_append.mpr ⟨lt_wsX8_behind_r2, (List.forall_mem_append.mpr ⟨lt_wsX8_behind_r3, (List.forall_mem_append.mpr ⟨lt_wsX8_behind_r4, (List.forall_mem_append.mpr ⟨lt_wsX8_behind_r5, lt_wsX8_behind_r6⟩)⟩)⟩)⟩)⟩), lt_wsX80⟩), lt_wsX10⟩), lt_wsX70⟩), lt_wsX30⟩)⟩)
set_option maxRecDepth 100000 in
theorem tw_438 : Cond.selects RX8 yX8_behind yX8_behind ∈ lw_tbl := List.mem_append_right _ (List.mem_append_right _ (List.mem_append_left _ (List.mem_of_getElem? (i := 158) rfl)))
set_option maxRecDepth 100000 in
theorem tw_439 : Cond.instanceMethod yX8_behind ∈ lw_tbl := List.mem_append_right _ (List.mem_append_right _ (List.mem_append_left _ (List.mem_of_getElem? (i := 157) rfl)))
set_option maxRecDepth 100000 in
theorem tw_440 : Cond.methodLink RL 49 yX8_behind ∈ lw_tbl := List.mem_append_right _ (List.mem_append_right _ (List.mem_append_left _ (List.mem_of_getElem? (i := 156) rfl)))
set_option maxRecDepth 100000 in
theorem tw_441 : Cond.code yX9_behind cX9_behind 4 (some .int) ∈ lw_tbl := List.mem_append_right _ (List.mem_append_right _ (List.mem_append_right _ (List.mem_append_right _ (List.mem_append_left _ (List.mem_of_getElem? (i := 130) rfl)))))
set_option maxRecDepth 100000 in
theorem tw_442 : Cond.constantLong RX9 207 (3) ∈ lw_tbl := List.mem_append_right _ (List.mem_append_right _ (List.mem_append_right _ (List.mem_append_right _ (List.mem_append_left _ (List.mem_of_getElem? (i := 131) rfl)))))
set_option maxRecDepth 100000 in
theorem lt_wsX9_behind_r1 : ∀ w ∈ wsX9_behind_r1, w ∈ lw_tbl := (List.forall_mem_cons.mpr ⟨tw_442, (List.forall_mem_cons.mpr ⟨tw_153, (List.forall_mem_cons.mpr ⟨tw_152, (List.forall_mem_cons.mpr ⟨tw_151, (List.forall_mem_cons.mpr ⟨tw_150, (List.forall_mem_cons.mpr ⟨tw_149, (List.forall_mem_cons.mpr ⟨tw_148, (List.forall_mem_cons.mpr ⟨tw_147, (List.forall_mem_cons.mpr ⟨tw_146, (List.forall_mem_cons.mpr ⟨tw_374, (List.forall_mem_cons.mpr ⟨tw_373, (List.forall_mem_cons.mpr ⟨tw_372, (List.forall_mem_cons.mpr ⟨tw_371, (List.forall_mem_cons.mpr ⟨tw_377, (List.forall_mem_cons.mpr ⟨tw_370, (List.forall_mem_cons.mpr ⟨tw_369, (List.forall_mem_cons.mpr ⟨tw_368, (List.forall_mem_cons.mpr ⟨tw_367, (List.forall_mem_cons.mpr ⟨tw_105, (List.forall_mem_cons.mpr ⟨tw_114, (List.forall_mem_cons.mpr ⟨tw_113, (List.forall_mem_cons.mpr ⟨tw_112, (List.forall_mem_cons.mpr ⟨tw_96, (List.forall_mem_cons.mpr ⟨tw_95, (fun _ h => absurd h List.not_mem_nil)⟩)⟩)⟩)⟩)⟩)⟩)⟩)⟩)⟩)⟩)⟩)⟩)⟩)⟩)⟩)⟩)⟩)⟩)⟩)⟩)⟩)⟩)⟩)⟩)
set_option maxRecDepth 100000 in
theorem lt_wsX9_behind_r2 : ∀ w ∈ wsX9_behind_r2, w ∈ lw_tbl := (List.forall_mem_cons.mpr ⟨tw_366, (List.forall_mem_cons.mpr ⟨tw_365, (List.forall_mem_cons.mpr ⟨tw_290, (List.forall_mem_cons.mpr ⟨tw_289, (List.forall_mem_cons.mpr ⟨tw_262, (List.forall_mem_cons.mpr ⟨tw_279, (List.forall_mem_cons.mpr ⟨tw_217, (List.forall_mem_cons.mpr ⟨tw_109, (List.forall_mem_cons.mpr ⟨tw_278, (List.forall_mem_cons.mpr ⟨tw_277, (List.forall_mem_cons.mpr ⟨tw_276, (List.forall_mem_cons.mpr ⟨tw_275, (List.forall_mem_cons.mpr ⟨tw_274, (List.forall_mem_cons.mpr ⟨tw_273, (List.forall_mem_cons.mpr ⟨tw_272, (List.forall_mem_cons.mpr ⟨tw_271, (List.forall_mem_cons.mpr ⟨tw_270, (List.forall_mem_cons.mpr ⟨tw_269, (List.forall_mem_cons.mpr ⟨tw_107, (List.forall_mem_cons.mpr ⟨tw_268, (List.forall_mem_cons.mpr ⟨tw_267, (List.forall_mem_cons.mpr ⟨tw_266, (List.forall_mem_cons.mpr ⟨tw_265, (List.forall_mem_cons.mpr ⟨tw_264, (fun _ h => absurd h List.not_mem_nil)⟩)⟩)⟩)⟩)⟩)⟩)⟩)⟩)⟩)⟩)⟩)⟩)⟩)⟩)⟩)⟩)⟩)⟩)⟩)⟩)⟩)⟩)⟩)⟩)
set_option maxRecDepth 100000 in
theorem lt_wsX9_behind_r3 : ∀ w ∈ wsX9_behind_r3, w ∈ lw_tbl := (List.forall_mem_cons.mpr ⟨tw_263, (List.forall_mem_cons.mpr ⟨tw_288, (List.forall_mem_cons.mpr ⟨tw_287, (List.forall_mem_cons.mpr ⟨tw_286, (List.forall_mem_cons.mpr ⟨tw_108, (List.forall_mem_cons.mpr ⟨tw_106, (List.forall_mem_cons.mpr ⟨tw_285, (List.forall_mem_cons.mpr ⟨tw_284, (List.forall_mem_cons.mpr ⟨tw_283, (List.forall_mem_cons.mpr ⟨tw_282, (List.forall_mem_cons.mpr ⟨tw_281, (List.forall_mem_cons.mpr ⟨tw_280, (List.forall_mem_cons.mpr ⟨tw_389, (List.forall_mem_cons.mpr ⟨tw_388, (List.forall_mem_cons.mpr ⟨tw_387, (List.forall_mem_cons.mpr ⟨tw_386, (List.forall_mem_cons.mpr ⟨tw_376, (List.forall_mem_cons.mpr ⟨tw_375, (List.forall_mem_cons.mpr ⟨tw_385, (List.forall_mem_cons.mpr ⟨tw_384, (List.forall_mem_cons.mpr ⟨tw_383, (List.forall_mem_cons.mpr ⟨tw_382, (List.forall_mem_cons.mpr ⟨tw_381, (List.forall_mem_cons.mpr ⟨tw_380, (fun _ h => absurd h List.not_mem_nil)⟩)⟩)⟩)⟩)⟩)⟩)⟩)⟩)⟩)⟩)⟩)⟩)⟩)⟩)⟩)⟩)⟩)⟩)⟩)⟩)⟩)⟩)⟩)⟩)
set_option maxRecDepth 100000 in
theorem lt_wsX9_behind_r4 : ∀ w ∈ wsX9_behind_r4, w ∈ lw_tbl := (List.forall_mem_cons.mpr ⟨tw_176, (List.forall_mem_cons.mpr ⟨tw_175, (List.forall_mem_cons.mpr ⟨tw_174, (List.forall_mem_cons.mpr ⟨tw_379, (List.forall_mem_cons.mpr ⟨tw_411, (List.forall_mem_cons.mpr ⟨tw_410, (List.forall_mem_cons.mpr ⟨tw_409, (List.forall_mem_cons.mpr ⟨tw_408, (List.forall_mem_cons.mpr ⟨tw_407, (List.forall_mem_cons.mpr ⟨tw_406, (List.forall_mem_cons.mpr ⟨tw_405, (List.forall_mem_cons.mpr ⟨tw_404, (List.forall_mem_cons.mpr ⟨tw_403, (List.forall_mem_cons.mpr ⟨tw_402, (List.forall_mem_cons.mpr ⟨tw_401, (List.forall_mem_cons.mpr ⟨tw_400, (List.forall_mem_cons.mpr ⟨tw_399, (List.forall_mem_cons.mpr ⟨tw_398, (List.forall_mem_cons.mpr ⟨tw_397, (List.forall_mem_cons.mpr ⟨tw_396, (List.forall_mem_cons.mpr ⟨tw_395, (List.forall_mem_cons.mpr ⟨tw_394, (List.forall_mem_cons.mpr ⟨tw_393, (List.forall_mem_cons.mpr ⟨tw_392, (fun _ h => absurd h List.not_mem_nil)⟩)⟩)⟩)⟩)⟩)⟩)⟩)⟩)⟩)⟩)⟩)⟩)⟩)⟩)⟩)⟩)⟩)⟩)⟩)⟩)⟩)⟩)⟩)⟩)
set_option maxRecDepth 100000 in
theorem tw_443 : Cond.instanceMethod yX9_ofHassock ∈ lw_tbl := List.mem_append_right _ (List.mem_append_right _ (List.mem_append_right _ (List.mem_append_right _ (List.mem_append_left _ (List.mem_of_getElem? (i := 134) rfl)))))
set_option maxRecDepth 100000 in
theorem tw_444 : Cond.methodLink RX9 209 yX9_ofHassock ∈ lw_tbl := List.mem_append_right _ (List.mem_append_right _ (List.mem_append_right _ (List.mem_append_right _ (List.mem_append_left _ (List.mem_of_getElem? (i := 132) rfl)))))
set_option maxRecDepth 100000 in
theorem lt_wsX9_behind_r5 : ∀ w ∈ wsX9_behind_r5, w ∈ lw_tbl := (List.forall_mem_cons.mpr ⟨tw_391, (List.forall_mem_cons.mpr ⟨tw_390, (List.forall_mem_cons.mpr ⟨tw_203, (List.forall_mem_cons.mpr ⟨tw_202, (List.forall_mem_cons.mpr ⟨tw_201, (List.forall_mem_cons.mpr ⟨tw_200, (List.forall_mem_cons.mpr ⟨tw_431, (List.forall_mem_cons.mpr ⟨tw_430, (List.forall_mem_cons.mpr ⟨tw_429, (List.forall_mem_cons.mpr ⟨tw_428, (List.forall_mem_cons.mpr ⟨tw_427, (List.forall_mem_cons.mpr ⟨tw_426, (List.forall_mem_cons.mpr ⟨tw_425, (List.forall_mem_cons.mpr ⟨tw_424, (List.forall_mem_cons.mpr ⟨tw_423, (List.forall_mem_cons.mpr ⟨tw_422, (List.forall_mem_cons.mpr ⟨tw_421, (List.forall_mem_cons.mpr ⟨tw_420, (List.forall_mem_cons.mpr ⟨tw_419, (List.forall_mem_cons.mpr ⟨tw_418, (List.forall_mem_cons.mpr ⟨tw_417, (List.forall_mem_cons.mpr ⟨tw_416, (List.forall_mem_cons.mpr ⟨tw_444, (List.forall_mem_cons.mpr ⟨tw_443, (fun _ h => absurd h List.not_mem_nil)⟩)⟩)⟩)⟩)⟩)⟩)⟩)⟩)⟩)⟩)⟩)⟩)⟩)⟩)⟩)⟩)⟩)⟩)⟩)⟩)⟩)⟩)⟩)⟩)
set_option maxRecDepth 100000 in
theorem tw_445 : Cond.code yX9_ofHassock cX9_ofHassock 4 (some .int) ∈ lw_tbl := List.mem_append_right _ (List.mem_append_right _ (List.mem_append_right _ (List.mem_append_right _ (List.mem_append_left _ (List.mem_of_getElem? (i := 135) rfl)))))
set_option maxRecDepth 100000 in
theorem tw_446 : Cond.selects RX9 yX9_ofHassock yX9_ofHassock ∈ lw_tbl := List.mem_append_left _ (List.mem_of_getElem? (i := 41) rfl)
set_option maxRecDepth 100000 in
theorem lt_wsX9_behind_r6 : ∀ w ∈ wsX9_behind_r6, w ∈ lw_tbl := (List.forall_mem_cons.mpr ⟨tw_446, (List.forall_mem_cons.mpr ⟨tw_445, (List.forall_mem_cons.mpr ⟨tw_415, (List.forall_mem_cons.mpr ⟨tw_414, (List.forall_mem_cons.mpr ⟨tw_413, (List.forall_mem_cons.mpr ⟨tw_412, (fun _ h => absurd h List.not_mem_nil)⟩)⟩)⟩)⟩)⟩)⟩)
set_option maxRecDepth 100000 in
theorem lt_wsX9_behind : ∀ w ∈ wsX9_behind, w ∈ lw_tbl := (List.forall_mem_cons.mpr ⟨tw_441, (List.forall_mem_append.mpr ⟨(List.forall_mem_append.mpr ⟨lt_wsX9_behind_r1, (List.forall_mem_append.mpr ⟨lt_wsX9_behind_r2, (List.forall_mem_append.mpr ⟨lt_wsX9_behind_r3, (List.forall_mem_append.mpr ⟨lt_wsX9_behind_r4, (List.forall_mem_append.mpr ⟨lt_wsX9_behind_r5, lt_wsX9_behind_r6⟩)⟩)⟩)⟩)⟩), lt_wsX90⟩)⟩)
set_option maxRecDepth 100000 in
theorem tw_447 : Cond.selects RX9 yX9_behind yX9_behind ∈ lw_tbl := List.mem_append_right _ (List.mem_append_right _ (List.mem_append_right _ (List.mem_append_right _ (List.mem_append_left _ (List.mem_of_getElem? (i := 129) rfl)))))
set_option maxRecDepth 100000 in
theorem tw_448 : Cond.instanceMethod yX9_behind ∈ lw_tbl := List.mem_append_right _ (List.mem_append_right _ (List.mem_append_right _ (List.mem_append_right _ (List.mem_append_left _ (List.mem_of_getElem? (i := 128) rfl)))))
set_option maxRecDepth 100000 in
theorem tw_449 : Cond.methodLink RL 52 yX9_behind ∈ lw_tbl := List.mem_append_right _ (List.mem_append_right _ (List.mem_append_right _ (List.mem_append_right _ (List.mem_append_left _ (List.mem_of_getElem? (i := 127) rfl)))))
set_option maxRecDepth 100000 in
theorem tw_450 : Cond.code yX8_see cX8_see 3 (some .int) ∈ lw_tbl := List.mem_append_right _ (List.mem_append_right _ (List.mem_append_left _ (List.mem_of_getElem? (i := 163) rfl)))
set_option maxRecDepth 100000 in
theorem tw_451 : Cond.fieldLink RX8 142 "HassockSee$Diocese" "year" "I" ∈ lw_tbl := List.mem_append_right _ (List.mem_append_left _ (List.mem_of_getElem? (i := 33) rfl))
set_option maxRecDepth 100000 in
theorem tw_452 : Cond.fieldLink RX8 136 "HassockSee$Diocese" "there" "I" ∈ lw_tbl := List.mem_append_right _ (List.mem_append_left _ (List.mem_of_getElem? (i := 29) rfl))
set_option maxRecDepth 100000 in
theorem lt_wsX8_see_r1 : ∀ w ∈ wsX8_see_r1, w ∈ lw_tbl := (List.forall_mem_cons.mpr ⟨tw_17, (List.forall_mem_cons.mpr ⟨tw_181, (List.forall_mem_cons.mpr ⟨tw_452, (List.forall_mem_cons.mpr ⟨tw_451, (List.forall_mem_cons.mpr ⟨tw_131, (List.forall_mem_cons.mpr ⟨tw_130, (List.forall_mem_cons.mpr ⟨tw_133, (List.forall_mem_cons.mpr ⟨tw_129, (List.forall_mem_cons.mpr ⟨tw_296, (List.forall_mem_cons.mpr ⟨tw_295, (List.forall_mem_cons.mpr ⟨tw_294, (List.forall_mem_cons.mpr ⟨tw_293, (List.forall_mem_cons.mpr ⟨tw_13, (List.forall_mem_cons.mpr ⟨tw_18, (List.forall_mem_cons.mpr ⟨tw_9, (List.forall_mem_cons.mpr ⟨tw_299, (List.forall_mem_cons.mpr ⟨tw_252, (List.forall_mem_cons.mpr ⟨tw_251, (List.forall_mem_cons.mpr ⟨tw_250, (List.forall_mem_cons.mpr ⟨tw_14, (List.forall_mem_cons.mpr ⟨tw_249, (List.forall_mem_cons.mpr ⟨tw_69, (List.forall_mem_cons.mpr ⟨tw_248, (List.forall_mem_cons.mpr ⟨tw_247, (fun _ h => absurd h List.not_mem_nil)⟩)⟩)⟩)⟩)⟩)⟩)⟩)⟩)⟩)⟩)⟩)⟩)⟩)⟩)⟩)⟩)⟩)⟩)⟩)⟩)⟩)⟩)⟩)⟩)
set_option maxRecDepth 100000 in
theorem lt_wsX8_see_r2 : ∀ w ∈ wsX8_see_r2, w ∈ lw_tbl := (List.forall_mem_cons.mpr ⟨tw_246, (List.forall_mem_cons.mpr ⟨tw_245, (List.forall_mem_cons.mpr ⟨tw_244, (List.forall_mem_cons.mpr ⟨tw_243, (List.forall_mem_cons.mpr ⟨tw_242, (List.forall_mem_cons.mpr ⟨tw_241, (List.forall_mem_cons.mpr ⟨tw_68, (List.forall_mem_cons.mpr ⟨tw_240, (List.forall_mem_cons.mpr ⟨tw_239, (List.forall_mem_cons.mpr ⟨tw_238, (List.forall_mem_cons.mpr ⟨tw_237, (List.forall_mem_cons.mpr ⟨tw_236, (List.forall_mem_cons.mpr ⟨tw_258, (List.forall_mem_cons.mpr ⟨tw_257, (List.forall_mem_cons.mpr ⟨tw_256, (List.forall_mem_cons.mpr ⟨tw_255, (List.forall_mem_cons.mpr ⟨tw_254, (List.forall_mem_cons.mpr ⟨tw_253, (List.forall_mem_cons.mpr ⟨tw_303, (List.forall_mem_cons.mpr ⟨tw_302, (List.forall_mem_cons.mpr ⟨tw_301, (List.forall_mem_cons.mpr ⟨tw_19, (List.forall_mem_cons.mpr ⟨tw_300, (List.forall_mem_cons.mpr ⟨tw_31, (fun _ h => absurd h List.not_mem_nil)⟩)⟩)⟩)⟩)⟩)⟩)⟩)⟩)⟩)⟩)⟩)⟩)⟩)⟩)⟩)⟩)⟩)⟩)⟩)⟩)⟩)⟩)⟩)⟩)
set_option maxRecDepth 100000 in
theorem lt_wsX8_see_r3 : ∀ w ∈ wsX8_see_r3, w ∈ lw_tbl := (List.forall_mem_cons.mpr ⟨tw_30, (List.forall_mem_cons.mpr ⟨tw_29, (List.forall_mem_cons.mpr ⟨tw_27, (List.forall_mem_cons.mpr ⟨tw_26, (List.forall_mem_cons.mpr ⟨tw_25, (List.forall_mem_cons.mpr ⟨tw_322, (List.forall_mem_cons.mpr ⟨tw_321, (List.forall_mem_cons.mpr ⟨tw_320, (List.forall_mem_cons.mpr ⟨tw_10, (List.forall_mem_cons.mpr ⟨tw_319, (List.forall_mem_cons.mpr ⟨tw_318, (List.forall_mem_cons.mpr ⟨tw_317, (List.forall_mem_cons.mpr ⟨tw_316, (List.forall_mem_cons.mpr ⟨tw_315, (List.forall_mem_cons.mpr ⟨tw_314, (List.forall_mem_cons.mpr ⟨tw_313, (List.forall_mem_cons.mpr ⟨tw_312, (List.forall_mem_cons.mpr ⟨tw_311, (List.forall_mem_cons.mpr ⟨tw_310, (List.forall_mem_cons.mpr ⟨tw_309, (List.forall_mem_cons.mpr ⟨tw_308, (List.forall_mem_cons.mpr ⟨tw_307, (List.forall_mem_cons.mpr ⟨tw_306, (List.forall_mem_cons.mpr ⟨tw_305, (fun _ h => absurd h List.not_mem_nil)⟩)⟩)⟩)⟩)⟩)⟩)⟩)⟩)⟩)⟩)⟩)⟩)⟩)⟩)⟩)⟩)⟩)⟩)⟩)⟩)⟩)⟩)⟩)⟩)
set_option maxRecDepth 100000 in
theorem lt_wsX8_see_r4 : ∀ w ∈ wsX8_see_r4, w ∈ lw_tbl := (List.forall_mem_cons.mpr ⟨tw_304, (List.forall_mem_cons.mpr ⟨tw_333, (List.forall_mem_cons.mpr ⟨tw_332, (List.forall_mem_cons.mpr ⟨tw_331, (List.forall_mem_cons.mpr ⟨tw_330, (List.forall_mem_cons.mpr ⟨tw_329, (List.forall_mem_cons.mpr ⟨tw_328, (List.forall_mem_cons.mpr ⟨tw_327, (List.forall_mem_cons.mpr ⟨tw_326, (List.forall_mem_cons.mpr ⟨tw_325, (List.forall_mem_cons.mpr ⟨tw_324, (List.forall_mem_cons.mpr ⟨tw_168, (List.forall_mem_cons.mpr ⟨tw_167, (List.forall_mem_cons.mpr ⟨tw_166, (List.forall_mem_cons.mpr ⟨tw_134, (List.forall_mem_cons.mpr ⟨tw_132, (List.forall_mem_cons.mpr ⟨tw_165, (List.forall_mem_cons.mpr ⟨tw_164, (List.forall_mem_cons.mpr ⟨tw_323, (List.forall_mem_cons.mpr ⟨tw_123, (List.forall_mem_cons.mpr ⟨tw_122, (List.forall_mem_cons.mpr ⟨tw_121, (List.forall_mem_cons.mpr ⟨tw_120, (List.forall_mem_cons.mpr ⟨tw_119, (fun _ h => absurd h List.not_mem_nil)⟩)⟩)⟩)⟩)⟩)⟩)⟩)⟩)⟩)⟩)⟩)⟩)⟩)⟩)⟩)⟩)⟩)⟩)⟩)⟩)⟩)⟩)⟩)⟩)
set_option maxRecDepth 100000 in
theorem lt_wsX8_see_r5 : ∀ w ∈ wsX8_see_r5, w ∈ lw_tbl := (List.forall_mem_cons.mpr ⟨tw_118, (List.forall_mem_cons.mpr ⟨tw_117, (List.forall_mem_cons.mpr ⟨tw_138, (List.forall_mem_cons.mpr ⟨tw_137, (List.forall_mem_cons.mpr ⟨tw_136, (List.forall_mem_cons.mpr ⟨tw_347, (List.forall_mem_cons.mpr ⟨tw_346, (List.forall_mem_cons.mpr ⟨tw_345, (List.forall_mem_cons.mpr ⟨tw_344, (List.forall_mem_cons.mpr ⟨tw_343, (List.forall_mem_cons.mpr ⟨tw_342, (List.forall_mem_cons.mpr ⟨tw_341, (List.forall_mem_cons.mpr ⟨tw_340, (List.forall_mem_cons.mpr ⟨tw_339, (List.forall_mem_cons.mpr ⟨tw_338, (List.forall_mem_cons.mpr ⟨tw_337, (List.forall_mem_cons.mpr ⟨tw_336, (List.forall_mem_cons.mpr ⟨tw_335, (List.forall_mem_cons.mpr ⟨tw_162, (List.forall_mem_cons.mpr ⟨tw_161, (List.forall_mem_cons.mpr ⟨tw_160, (List.forall_mem_cons.mpr ⟨tw_334, (List.forall_mem_cons.mpr ⟨tw_193, (List.forall_mem_cons.mpr ⟨tw_192, (fun _ h => absurd h List.not_mem_nil)⟩)⟩)⟩)⟩)⟩)⟩)⟩)⟩)⟩)⟩)⟩)⟩)⟩)⟩)⟩)⟩)⟩)⟩)⟩)⟩)⟩)⟩)⟩)⟩)
set_option maxRecDepth 100000 in
theorem tw_453 : Cond.code yX1_stitchesInAll cX1_stitchesInAll 3 (some .int) ∈ lw_tbl := List.mem_append_right _ (List.mem_append_right _ (List.mem_append_left _ (List.mem_of_getElem? (i := 167) rfl)))
set_option maxRecDepth 100000 in
theorem tw_454 : Cond.selects RX1 yX1_stitchesInAll yX1_stitchesInAll ∈ lw_tbl := List.mem_append_right _ (List.mem_append_right _ (List.mem_append_left _ (List.mem_of_getElem? (i := 166) rfl)))
set_option maxRecDepth 100000 in
theorem tw_455 : Cond.instanceMethod yX1_stitchesInAll ∈ lw_tbl := List.mem_append_right _ (List.mem_append_right _ (List.mem_append_left _ (List.mem_of_getElem? (i := 165) rfl)))
set_option maxRecDepth 100000 in
theorem tw_456 : Cond.methodLink RX8 139 yX1_stitchesInAll ∈ lw_tbl := List.mem_append_right _ (List.mem_append_right _ (List.mem_append_left _ (List.mem_of_getElem? (i := 164) rfl)))
set_option maxRecDepth 100000 in
theorem lt_wsX8_see_r6 : ∀ w ∈ wsX8_see_r6, w ∈ lw_tbl := (List.forall_mem_cons.mpr ⟨tw_191, (List.forall_mem_cons.mpr ⟨tw_360, (List.forall_mem_cons.mpr ⟨tw_359, (List.forall_mem_cons.mpr ⟨tw_358, (List.forall_mem_cons.mpr ⟨tw_357, (List.forall_mem_cons.mpr ⟨tw_356, (List.forall_mem_cons.mpr ⟨tw_355, (List.forall_mem_cons.mpr ⟨tw_354, (List.forall_mem_cons.mpr ⟨tw_353, (List.forall_mem_cons.mpr ⟨tw_352, (List.forall_mem_cons.mpr ⟨tw_351, (List.forall_mem_cons.mpr ⟨tw_350, (List.forall_mem_cons.mpr ⟨tw_349, (List.forall_mem_cons.mpr ⟨tw_348, (List.forall_mem_cons.mpr ⟨tw_456, (List.forall_mem_cons.mpr ⟨tw_455, (List.forall_mem_cons.mpr ⟨tw_454, (List.forall_mem_cons.mpr ⟨tw_453, (fun _ h => absurd h List.not_mem_nil)⟩)⟩)⟩)⟩)⟩)⟩)⟩)⟩)⟩)⟩)⟩)⟩)⟩)⟩)⟩)⟩)⟩)⟩)
set_option maxRecDepth 100000 in
theorem lt_wsX8_see : ∀ w ∈ wsX8_see, w ∈ lw_tbl := (List.forall_mem_cons.mpr ⟨tw_450, (List.forall_mem_append.mpr ⟨(List.forall_mem_append.mpr ⟨(List.forall_mem_append.mpr ⟨(List.forall_mem_append.mpr ⟨(List.forall_mem_append.mpr ⟨lt_wsX8_see_r1, (List.forall_mem_append.mpr ⟨lt_wsX8_see_r2, (List.forall_mem_append.mpr ⟨lt_wsX8_see_r3, (List.forall_mem_append.mpr ⟨lt_wsX8_see_r4, (List.forall_mem_append.mpr ⟨lt_wsX8_see_r5, lt_wsX8_see_r6⟩)⟩)⟩)⟩)⟩), lt_wsX80⟩), lt_wsX10⟩), lt_wsX70⟩), lt_wsX30⟩)⟩)
set_option maxRecDepth 100000 in
theorem tw_457 : Cond.selects RX8 yX8_see yX8_see ∈ lw_tbl := List.mem_append_right _ (List.mem_append_right _ (List.mem_append_left _ (List.mem_of_getElem? (i := 162) rfl)))
set_option maxRecDepth 100000 in
theorem tw_458 : Cond.instanceMethod yX8_see ∈ lw_tbl := List.mem_append_right _ (List.mem_append_right _ (List.mem_append_left _ (List.mem_of_getElem? (i := 161) rfl)))
set_option maxRecDepth 100000 in
theorem tw_459 : Cond.methodLink RL 53 yX8_see ∈ lw_tbl := List.mem_append_right _ (List.mem_append_right _ (List.mem_append_left _ (List.mem_of_getElem? (i := 160) rfl)))
set_option maxRecDepth 100000 in
theorem tw_460 : Cond.code yX9_see cX9_see 3 (some .int) ∈ lw_tbl := List.mem_append_right _ (List.mem_append_right _ (List.mem_append_right _ (List.mem_append_right _ (List.mem_append_left _ (List.mem_of_getElem? (i := 139) rfl)))))
set_option maxRecDepth 100000 in
theorem lt_wsX9_see_r1 : ∀ w ∈ wsX9_see_r1, w ∈ lw_tbl := (List.forall_mem_cons.mpr ⟨tw_442, (List.forall_mem_cons.mpr ⟨tw_95, (List.forall_mem_cons.mpr ⟨tw_96, (List.forall_mem_cons.mpr ⟨tw_366, (List.forall_mem_cons.mpr ⟨tw_148, (List.forall_mem_cons.mpr ⟨tw_147, (List.forall_mem_cons.mpr ⟨tw_151, (List.forall_mem_cons.mpr ⟨tw_146, (List.forall_mem_cons.mpr ⟨tw_374, (List.forall_mem_cons.mpr ⟨tw_373, (List.forall_mem_cons.mpr ⟨tw_372, (List.forall_mem_cons.mpr ⟨tw_371, (List.forall_mem_cons.mpr ⟨tw_377, (List.forall_mem_cons.mpr ⟨tw_370, (List.forall_mem_cons.mpr ⟨tw_369, (List.forall_mem_cons.mpr ⟨tw_368, (List.forall_mem_cons.mpr ⟨tw_367, (List.forall_mem_cons.mpr ⟨tw_105, (List.forall_mem_cons.mpr ⟨tw_114, (List.forall_mem_cons.mpr ⟨tw_113, (List.forall_mem_cons.mpr ⟨tw_112, (List.forall_mem_cons.mpr ⟨tw_365, (List.forall_mem_cons.mpr ⟨tw_290, (List.forall_mem_cons.mpr ⟨tw_289, (fun _ h => absurd h List.not_mem_nil)⟩)⟩)⟩)⟩)⟩)⟩)⟩)⟩)⟩)⟩)⟩)⟩)⟩)⟩)⟩)⟩)⟩)⟩)⟩)⟩)⟩)⟩)⟩)⟩)
set_option maxRecDepth 100000 in
theorem lt_wsX9_see_r2 : ∀ w ∈ wsX9_see_r2, w ∈ lw_tbl := (List.forall_mem_cons.mpr ⟨tw_262, (List.forall_mem_cons.mpr ⟨tw_279, (List.forall_mem_cons.mpr ⟨tw_217, (List.forall_mem_cons.mpr ⟨tw_109, (List.forall_mem_cons.mpr ⟨tw_278, (List.forall_mem_cons.mpr ⟨tw_277, (List.forall_mem_cons.mpr ⟨tw_276, (List.forall_mem_cons.mpr ⟨tw_275, (List.forall_mem_cons.mpr ⟨tw_274, (List.forall_mem_cons.mpr ⟨tw_273, (List.forall_mem_cons.mpr ⟨tw_272, (List.forall_mem_cons.mpr ⟨tw_271, (List.forall_mem_cons.mpr ⟨tw_270, (List.forall_mem_cons.mpr ⟨tw_269, (List.forall_mem_cons.mpr ⟨tw_107, (List.forall_mem_cons.mpr ⟨tw_268, (List.forall_mem_cons.mpr ⟨tw_267, (List.forall_mem_cons.mpr ⟨tw_266, (List.forall_mem_cons.mpr ⟨tw_265, (List.forall_mem_cons.mpr ⟨tw_264, (List.forall_mem_cons.mpr ⟨tw_263, (List.forall_mem_cons.mpr ⟨tw_288, (List.forall_mem_cons.mpr ⟨tw_287, (List.forall_mem_cons.mpr ⟨tw_286, (fun _ h => absurd h List.not_mem_nil)⟩)⟩)⟩)⟩)⟩)⟩)⟩)⟩)⟩)⟩)⟩)⟩)⟩)⟩)⟩)⟩)⟩)⟩)⟩)⟩)⟩)⟩)⟩)⟩)
set_option maxRecDepth 100000 in
theorem lt_wsX9_see_r3 : ∀ w ∈ wsX9_see_r3, w ∈ lw_tbl := (List.forall_mem_cons.mpr ⟨tw_108, (List.forall_mem_cons.mpr ⟨tw_106, (List.forall_mem_cons.mpr ⟨tw_285, (List.forall_mem_cons.mpr ⟨tw_284, (List.forall_mem_cons.mpr ⟨tw_283, (List.forall_mem_cons.mpr ⟨tw_282, (List.forall_mem_cons.mpr ⟨tw_281, (List.forall_mem_cons.mpr ⟨tw_280, (List.forall_mem_cons.mpr ⟨tw_389, (List.forall_mem_cons.mpr ⟨tw_388, (List.forall_mem_cons.mpr ⟨tw_387, (List.forall_mem_cons.mpr ⟨tw_386, (List.forall_mem_cons.mpr ⟨tw_376, (List.forall_mem_cons.mpr ⟨tw_375, (List.forall_mem_cons.mpr ⟨tw_385, (List.forall_mem_cons.mpr ⟨tw_384, (List.forall_mem_cons.mpr ⟨tw_383, (List.forall_mem_cons.mpr ⟨tw_382, (List.forall_mem_cons.mpr ⟨tw_381, (List.forall_mem_cons.mpr ⟨tw_380, (List.forall_mem_cons.mpr ⟨tw_176, (List.forall_mem_cons.mpr ⟨tw_175, (List.forall_mem_cons.mpr ⟨tw_174, (List.forall_mem_cons.mpr ⟨tw_379, (fun _ h => absurd h List.not_mem_nil)⟩)⟩)⟩)⟩)⟩)⟩)⟩)⟩)⟩)⟩)⟩)⟩)⟩)⟩)⟩)⟩)⟩)⟩)⟩)⟩)⟩)⟩)⟩)⟩)
set_option maxRecDepth 100000 in
theorem lt_wsX9_see_r4 : ∀ w ∈ wsX9_see_r4, w ∈ lw_tbl := (List.forall_mem_cons.mpr ⟨tw_411, (List.forall_mem_cons.mpr ⟨tw_410, (List.forall_mem_cons.mpr ⟨tw_409, (List.forall_mem_cons.mpr ⟨tw_408, (List.forall_mem_cons.mpr ⟨tw_407, (List.forall_mem_cons.mpr ⟨tw_406, (List.forall_mem_cons.mpr ⟨tw_405, (List.forall_mem_cons.mpr ⟨tw_404, (List.forall_mem_cons.mpr ⟨tw_403, (List.forall_mem_cons.mpr ⟨tw_402, (List.forall_mem_cons.mpr ⟨tw_401, (List.forall_mem_cons.mpr ⟨tw_400, (List.forall_mem_cons.mpr ⟨tw_399, (List.forall_mem_cons.mpr ⟨tw_398, (List.forall_mem_cons.mpr ⟨tw_397, (List.forall_mem_cons.mpr ⟨tw_396, (List.forall_mem_cons.mpr ⟨tw_395, (List.forall_mem_cons.mpr ⟨tw_394, (List.forall_mem_cons.mpr ⟨tw_393, (List.forall_mem_cons.mpr ⟨tw_392, (List.forall_mem_cons.mpr ⟨tw_391, (List.forall_mem_cons.mpr ⟨tw_390, (List.forall_mem_cons.mpr ⟨tw_203, (List.forall_mem_cons.mpr ⟨tw_202, (fun _ h => absurd h List.not_mem_nil)⟩)⟩)⟩)⟩)⟩)⟩)⟩)⟩)⟩)⟩)⟩)⟩)⟩)⟩)⟩)⟩)⟩)⟩)⟩)⟩)⟩)⟩)⟩)⟩)
set_option maxRecDepth 100000 in
theorem tw_461 : Cond.code yX9_allStitches cX9_allStitches 3 (some .int) ∈ lw_tbl := List.mem_append_right _ (List.mem_append_right _ (List.mem_append_right _ (List.mem_append_right _ (List.mem_append_left _ (List.mem_of_getElem? (i := 143) rfl)))))
set_option maxRecDepth 100000 in
theorem tw_462 : Cond.selects RX9 yX9_allStitches yX9_allStitches ∈ lw_tbl := List.mem_append_left _ (List.mem_of_getElem? (i := 42) rfl)
set_option maxRecDepth 100000 in
theorem tw_463 : Cond.instanceMethod yX9_allStitches ∈ lw_tbl := List.mem_append_right _ (List.mem_append_right _ (List.mem_append_right _ (List.mem_append_right _ (List.mem_append_left _ (List.mem_of_getElem? (i := 142) rfl)))))
set_option maxRecDepth 100000 in
theorem tw_464 : Cond.methodLink RX9 212 yX9_allStitches ∈ lw_tbl := List.mem_append_right _ (List.mem_append_right _ (List.mem_append_right _ (List.mem_append_right _ (List.mem_append_left _ (List.mem_of_getElem? (i := 140) rfl)))))
set_option maxRecDepth 100000 in
theorem lt_wsX9_see_r5 : ∀ w ∈ wsX9_see_r5, w ∈ lw_tbl := (List.forall_mem_cons.mpr ⟨tw_201, (List.forall_mem_cons.mpr ⟨tw_200, (List.forall_mem_cons.mpr ⟨tw_431, (List.forall_mem_cons.mpr ⟨tw_430, (List.forall_mem_cons.mpr ⟨tw_429, (List.forall_mem_cons.mpr ⟨tw_428, (List.forall_mem_cons.mpr ⟨tw_427, (List.forall_mem_cons.mpr ⟨tw_426, (List.forall_mem_cons.mpr ⟨tw_425, (List.forall_mem_cons.mpr ⟨tw_424, (List.forall_mem_cons.mpr ⟨tw_423, (List.forall_mem_cons.mpr ⟨tw_422, (List.forall_mem_cons.mpr ⟨tw_421, (List.forall_mem_cons.mpr ⟨tw_420, (List.forall_mem_cons.mpr ⟨tw_419, (List.forall_mem_cons.mpr ⟨tw_418, (List.forall_mem_cons.mpr ⟨tw_417, (List.forall_mem_cons.mpr ⟨tw_416, (List.forall_mem_cons.mpr ⟨tw_464, (List.forall_mem_cons.mpr ⟨tw_463, (List.forall_mem_cons.mpr ⟨tw_462, (List.forall_mem_cons.mpr ⟨tw_461, (List.forall_mem_cons.mpr ⟨tw_145, (List.forall_mem_cons.mpr ⟨tw_144, (fun _ h => absurd h List.not_mem_nil)⟩)⟩)⟩)⟩)⟩)⟩)⟩)⟩)⟩)⟩)⟩)⟩)⟩)⟩)⟩)⟩)⟩)⟩)⟩)⟩)⟩)⟩)⟩)⟩)
set_option maxRecDepth 100000 in
theorem lt_wsX9_see_r6 : ∀ w ∈ wsX9_see_r6, w ∈ lw_tbl := (List.forall_mem_cons.mpr ⟨tw_143, (List.forall_mem_cons.mpr ⟨tw_415, (List.forall_mem_cons.mpr ⟨tw_414, (List.forall_mem_cons.mpr ⟨tw_413, (List.forall_mem_cons.mpr ⟨tw_412, (fun _ h => absurd h List.not_mem_nil)⟩)⟩)⟩)⟩)⟩)
set_option maxRecDepth 100000 in
theorem lt_wsX9_see : ∀ w ∈ wsX9_see, w ∈ lw_tbl := (List.forall_mem_cons.mpr ⟨tw_460, (List.forall_mem_append.mpr ⟨(List.forall_mem_append.mpr ⟨lt_wsX9_see_r1, (List.forall_mem_append.mpr ⟨lt_wsX9_see_r2, (List.forall_mem_append.mpr ⟨lt_wsX9_see_r3, (List.forall_mem_append.mpr ⟨lt_wsX9_see_r4, (List.forall_mem_append.mpr ⟨lt_wsX9_see_r5, lt_wsX9_see_r6⟩)⟩)⟩)⟩)⟩), lt_wsX90⟩)⟩)
set_option maxRecDepth 100000 in
theorem tw_465 : Cond.selects RX9 yX9_see yX9_see ∈ lw_tbl := List.mem_append_right _ (List.mem_append_right _ (List.mem_append_right _ (List.mem_append_right _ (List.mem_append_left _ (List.mem_of_getElem? (i := 138) rfl)))))
set_option maxRecDepth 100000 in
theorem tw_466 : Cond.instanceMethod yX9_see ∈ lw_tbl := List.mem_append_right _ (List.mem_append_right _ (List.mem_append_right _ (List.mem_append_right _ (List.mem_append_left _ (List.mem_of_getElem? (i := 137) rfl)))))
set_option maxRecDepth 100000 in
theorem tw_467 : Cond.methodLink RL 56 yX9_see ∈ lw_tbl := List.mem_append_right _ (List.mem_append_right _ (List.mem_append_right _ (List.mem_append_right _ (List.mem_append_left _ (List.mem_of_getElem? (i := 136) rfl)))))
set_option maxRecDepth 100000 in
theorem tw_468 : Cond.code yX8_swept cX8_swept 3 (some .int) ∈ lw_tbl := List.mem_append_right _ (List.mem_append_right _ (List.mem_append_left _ (List.mem_of_getElem? (i := 171) rfl)))
set_option maxRecDepth 100000 in
theorem tw_469 : Cond.fieldLink RX8 148 "HassockSee$Years" "sweptHassock" "I" ∈ lw_tbl := List.mem_append_right _ (List.mem_append_left _ (List.mem_of_getElem? (i := 88) rfl))
set_option maxRecDepth 100000 in
theorem tw_470 : Cond.fieldLink RX8 145 "HassockSee$Years" "sweepingAct" "I" ∈ lw_tbl := List.mem_append_right _ (List.mem_append_left _ (List.mem_of_getElem? (i := 86) rfl))
set_option maxRecDepth 100000 in
theorem lt_wsX8_swept_r1 : ∀ w ∈ wsX8_swept_r1, w ∈ lw_tbl := (List.forall_mem_cons.mpr ⟨tw_9, (List.forall_mem_cons.mpr ⟨tw_470, (List.forall_mem_cons.mpr ⟨tw_469, (List.forall_mem_cons.mpr ⟨tw_131, (List.forall_mem_cons.mpr ⟨tw_130, (List.forall_mem_cons.mpr ⟨tw_133, (List.forall_mem_cons.mpr ⟨tw_129, (List.forall_mem_cons.mpr ⟨tw_296, (List.forall_mem_cons.mpr ⟨tw_295, (List.forall_mem_cons.mpr ⟨tw_294, (List.forall_mem_cons.mpr ⟨tw_293, (List.forall_mem_cons.mpr ⟨tw_13, (List.forall_mem_cons.mpr ⟨tw_17, (List.forall_mem_cons.mpr ⟨tw_18, (List.forall_mem_cons.mpr ⟨tw_299, (List.forall_mem_cons.mpr ⟨tw_252, (List.forall_mem_cons.mpr ⟨tw_251, (List.forall_mem_cons.mpr ⟨tw_250, (List.forall_mem_cons.mpr ⟨tw_14, (List.forall_mem_cons.mpr ⟨tw_249, (List.forall_mem_cons.mpr ⟨tw_69, (List.forall_mem_cons.mpr ⟨tw_248, (List.forall_mem_cons.mpr ⟨tw_247, (List.forall_mem_cons.mpr ⟨tw_246, (fun _ h => absurd h List.not_mem_nil)⟩)⟩)⟩)⟩)⟩)⟩)⟩)⟩)⟩)⟩)⟩)⟩)⟩)⟩)⟩)⟩)⟩)⟩)⟩)⟩)⟩)⟩)⟩)⟩)
set_option maxRecDepth 100000 in
theorem lt_wsX8_swept_r2 : ∀ w ∈ wsX8_swept_r2, w ∈ lw_tbl := (List.forall_mem_cons.mpr ⟨tw_245, (List.forall_mem_cons.mpr ⟨tw_244, (List.forall_mem_cons.mpr ⟨tw_243, (List.forall_mem_cons.mpr ⟨tw_242, (List.forall_mem_cons.mpr ⟨tw_241, (List.forall_mem_cons.mpr ⟨tw_68, (List.forall_mem_cons.mpr ⟨tw_240, (List.forall_mem_cons.mpr ⟨tw_239, (List.forall_mem_cons.mpr ⟨tw_238, (List.forall_mem_cons.mpr ⟨tw_237, (List.forall_mem_cons.mpr ⟨tw_236, (List.forall_mem_cons.mpr ⟨tw_258, (List.forall_mem_cons.mpr ⟨tw_257, (List.forall_mem_cons.mpr ⟨tw_256, (List.forall_mem_cons.mpr ⟨tw_255, (List.forall_mem_cons.mpr ⟨tw_254, (List.forall_mem_cons.mpr ⟨tw_253, (List.forall_mem_cons.mpr ⟨tw_303, (List.forall_mem_cons.mpr ⟨tw_302, (List.forall_mem_cons.mpr ⟨tw_301, (List.forall_mem_cons.mpr ⟨tw_19, (List.forall_mem_cons.mpr ⟨tw_300, (List.forall_mem_cons.mpr ⟨tw_31, (List.forall_mem_cons.mpr ⟨tw_30, (fun _ h => absurd h List.not_mem_nil)⟩)⟩)⟩)⟩)⟩)⟩)⟩)⟩)⟩)⟩)⟩)⟩)⟩)⟩)⟩)⟩)⟩)⟩)⟩)⟩)⟩)⟩)⟩)⟩)
set_option maxRecDepth 100000 in
theorem lt_wsX8_swept_r3 : ∀ w ∈ wsX8_swept_r3, w ∈ lw_tbl := (List.forall_mem_cons.mpr ⟨tw_29, (List.forall_mem_cons.mpr ⟨tw_27, (List.forall_mem_cons.mpr ⟨tw_26, (List.forall_mem_cons.mpr ⟨tw_25, (List.forall_mem_cons.mpr ⟨tw_322, (List.forall_mem_cons.mpr ⟨tw_321, (List.forall_mem_cons.mpr ⟨tw_320, (List.forall_mem_cons.mpr ⟨tw_10, (List.forall_mem_cons.mpr ⟨tw_319, (List.forall_mem_cons.mpr ⟨tw_318, (List.forall_mem_cons.mpr ⟨tw_317, (List.forall_mem_cons.mpr ⟨tw_316, (List.forall_mem_cons.mpr ⟨tw_315, (List.forall_mem_cons.mpr ⟨tw_314, (List.forall_mem_cons.mpr ⟨tw_313, (List.forall_mem_cons.mpr ⟨tw_312, (List.forall_mem_cons.mpr ⟨tw_311, (List.forall_mem_cons.mpr ⟨tw_310, (List.forall_mem_cons.mpr ⟨tw_309, (List.forall_mem_cons.mpr ⟨tw_308, (List.forall_mem_cons.mpr ⟨tw_307, (List.forall_mem_cons.mpr ⟨tw_306, (List.forall_mem_cons.mpr ⟨tw_305, (List.forall_mem_cons.mpr ⟨tw_304, (fun _ h => absurd h List.not_mem_nil)⟩)⟩)⟩)⟩)⟩)⟩)⟩)⟩)⟩)⟩)⟩)⟩)⟩)⟩)⟩)⟩)⟩)⟩)⟩)⟩)⟩)⟩)⟩)⟩)
set_option maxRecDepth 100000 in
theorem lt_wsX8_swept_r4 : ∀ w ∈ wsX8_swept_r4, w ∈ lw_tbl := (List.forall_mem_cons.mpr ⟨tw_333, (List.forall_mem_cons.mpr ⟨tw_332, (List.forall_mem_cons.mpr ⟨tw_331, (List.forall_mem_cons.mpr ⟨tw_330, (List.forall_mem_cons.mpr ⟨tw_329, (List.forall_mem_cons.mpr ⟨tw_328, (List.forall_mem_cons.mpr ⟨tw_327, (List.forall_mem_cons.mpr ⟨tw_326, (List.forall_mem_cons.mpr ⟨tw_325, (List.forall_mem_cons.mpr ⟨tw_324, (List.forall_mem_cons.mpr ⟨tw_168, (List.forall_mem_cons.mpr ⟨tw_167, (List.forall_mem_cons.mpr ⟨tw_166, (List.forall_mem_cons.mpr ⟨tw_134, (List.forall_mem_cons.mpr ⟨tw_132, (List.forall_mem_cons.mpr ⟨tw_165, (List.forall_mem_cons.mpr ⟨tw_164, (List.forall_mem_cons.mpr ⟨tw_323, (List.forall_mem_cons.mpr ⟨tw_123, (List.forall_mem_cons.mpr ⟨tw_122, (List.forall_mem_cons.mpr ⟨tw_121, (List.forall_mem_cons.mpr ⟨tw_120, (List.forall_mem_cons.mpr ⟨tw_119, (List.forall_mem_cons.mpr ⟨tw_118, (fun _ h => absurd h List.not_mem_nil)⟩)⟩)⟩)⟩)⟩)⟩)⟩)⟩)⟩)⟩)⟩)⟩)⟩)⟩)⟩)⟩)⟩)⟩)⟩)⟩)⟩)⟩)⟩)⟩)
set_option maxRecDepth 100000 in
theorem lt_wsX8_swept_r5 : ∀ w ∈ wsX8_swept_r5, w ∈ lw_tbl := (List.forall_mem_cons.mpr ⟨tw_117, (List.forall_mem_cons.mpr ⟨tw_138, (List.forall_mem_cons.mpr ⟨tw_137, (List.forall_mem_cons.mpr ⟨tw_136, (List.forall_mem_cons.mpr ⟨tw_347, (List.forall_mem_cons.mpr ⟨tw_346, (List.forall_mem_cons.mpr ⟨tw_345, (List.forall_mem_cons.mpr ⟨tw_344, (List.forall_mem_cons.mpr ⟨tw_343, (List.forall_mem_cons.mpr ⟨tw_342, (List.forall_mem_cons.mpr ⟨tw_341, (List.forall_mem_cons.mpr ⟨tw_340, (List.forall_mem_cons.mpr ⟨tw_339, (List.forall_mem_cons.mpr ⟨tw_338, (List.forall_mem_cons.mpr ⟨tw_337, (List.forall_mem_cons.mpr ⟨tw_336, (List.forall_mem_cons.mpr ⟨tw_335, (List.forall_mem_cons.mpr ⟨tw_162, (List.forall_mem_cons.mpr ⟨tw_161, (List.forall_mem_cons.mpr ⟨tw_160, (List.forall_mem_cons.mpr ⟨tw_334, (List.forall_mem_cons.mpr ⟨tw_193, (List.forall_mem_cons.mpr ⟨tw_192, (List.forall_mem_cons.mpr ⟨tw_191, (fun _ h => absurd h List.not_mem_nil)⟩)⟩)⟩)⟩)⟩)⟩)⟩)⟩)⟩)⟩)⟩)⟩)⟩)⟩)⟩)⟩)⟩)⟩)⟩)⟩)⟩)⟩)⟩)⟩)
set_option maxRecDepth 100000 in
theorem lt_wsX8_swept_r6 : ∀ w ∈ wsX8_swept_r6, w ∈ lw_tbl := (List.forall_mem_cons.mpr ⟨tw_360, (List.forall_mem_cons.mpr ⟨tw_359, (List.forall_mem_cons.mpr ⟨tw_358, (List.forall_mem_cons.mpr ⟨tw_357, (List.forall_mem_cons.mpr ⟨tw_356, (List.forall_mem_cons.mpr ⟨tw_355, (List.forall_mem_cons.mpr ⟨tw_354, (List.forall_mem_cons.mpr ⟨tw_353, (List.forall_mem_cons.mpr ⟨tw_352, (List.forall_mem_cons.mpr ⟨tw_351, (List.forall_mem_cons.mpr ⟨tw_350, (List.forall_mem_cons.mpr ⟨tw_349, (List.forall_mem_cons.mpr ⟨tw_348, (fun _ h => absurd h List.not_mem_nil)⟩)⟩)⟩)⟩)⟩)⟩)⟩)⟩)⟩)⟩)⟩)⟩)⟩)
set_option maxRecDepth 100000 in
theorem lt_wsX8_swept : ∀ w ∈ wsX8_swept, w ∈ lw_tbl := (List.forall_mem_cons.mpr ⟨tw_468, (List.forall_mem_append.mpr ⟨(List.forall_mem_append.mpr ⟨(List.forall_mem_append.mpr ⟨(List.forall_mem_append.mpr ⟨(List.forall_mem_append.mpr ⟨lt_wsX8_swept_r1, (List.forall_mem_append.mpr ⟨lt_wsX8_swept_r2, (List.forall_mem_append.mpr ⟨lt_wsX8_swept_r3, (List.forall_mem_append.mpr ⟨lt_wsX8_swept_r4, (List.forall_mem_append.mpr ⟨lt_wsX8_swept_r5, lt_wsX8_swept_r6⟩)⟩)⟩)⟩)⟩), lt_wsX80⟩), lt_wsX70⟩), lt_wsX30⟩), lt_wsX10⟩)⟩)
set_option maxRecDepth 100000 in
theorem tw_471 : Cond.selects RX8 yX8_swept yX8_swept ∈ lw_tbl := List.mem_append_right _ (List.mem_append_right _ (List.mem_append_left _ (List.mem_of_getElem? (i := 170) rfl)))
set_option maxRecDepth 100000 in
theorem tw_472 : Cond.instanceMethod yX8_swept ∈ lw_tbl := List.mem_append_right _ (List.mem_append_right _ (List.mem_append_left _ (List.mem_of_getElem? (i := 169) rfl)))
set_option maxRecDepth 100000 in
theorem tw_473 : Cond.methodLink RL 57 yX8_swept ∈ lw_tbl := List.mem_append_right _ (List.mem_append_right _ (List.mem_append_left _ (List.mem_of_getElem? (i := 168) rfl)))
set_option maxRecDepth 100000 in
theorem tw_474 : Cond.code yX9_swept cX9_swept 3 (some .int) ∈ lw_tbl := List.mem_append_right _ (List.mem_append_right _ (List.mem_append_right _ (List.mem_append_right _ (List.mem_append_left _ (List.mem_of_getElem? (i := 147) rfl)))))
set_option maxRecDepth 100000 in
theorem lt_wsX9_swept_r1 : ∀ w ∈ wsX9_swept_r1, w ∈ lw_tbl := (List.forall_mem_cons.mpr ⟨tw_385, (List.forall_mem_cons.mpr ⟨tw_384, (List.forall_mem_cons.mpr ⟨tw_148, (List.forall_mem_cons.mpr ⟨tw_147, (List.forall_mem_cons.mpr ⟨tw_151, (List.forall_mem_cons.mpr ⟨tw_146, (List.forall_mem_cons.mpr ⟨tw_374, (List.forall_mem_cons.mpr ⟨tw_373, (List.forall_mem_cons.mpr ⟨tw_372, (List.forall_mem_cons.mpr ⟨tw_371, (List.forall_mem_cons.mpr ⟨tw_377, (List.forall_mem_cons.mpr ⟨tw_370, (List.forall_mem_cons.mpr ⟨tw_369, (List.forall_mem_cons.mpr ⟨tw_368, (List.forall_mem_cons.mpr ⟨tw_367, (List.forall_mem_cons.mpr ⟨tw_105, (List.forall_mem_cons.mpr ⟨tw_114, (List.forall_mem_cons.mpr ⟨tw_113, (List.forall_mem_cons.mpr ⟨tw_112, (List.forall_mem_cons.mpr ⟨tw_96, (List.forall_mem_cons.mpr ⟨tw_95, (List.forall_mem_cons.mpr ⟨tw_366, (List.forall_mem_cons.mpr ⟨tw_365, (List.forall_mem_cons.mpr ⟨tw_290, (fun _ h => absurd h List.not_mem_nil)⟩)⟩)⟩)⟩)⟩)⟩)⟩)⟩)⟩)⟩)⟩)⟩)⟩)⟩)⟩)⟩)⟩)⟩)⟩)⟩)⟩)⟩)⟩)⟩)
set_option maxRecDepth 100000 in
theorem lt_wsX9_swept_r2 : ∀ w ∈ wsX9_swept_r2, w ∈ lw_tbl := (List.forall_mem_cons.mpr ⟨tw_289, (List.forall_mem_cons.mpr ⟨tw_262, (List.forall_mem_cons.mpr ⟨tw_279, (List.forall_mem_cons.mpr ⟨tw_217, (List.forall_mem_cons.mpr ⟨tw_109, (List.forall_mem_cons.mpr ⟨tw_278, (List.forall_mem_cons.mpr ⟨tw_277, (List.forall_mem_cons.mpr ⟨tw_276, (List.forall_mem_cons.mpr ⟨tw_275, (List.forall_mem_cons.mpr ⟨tw_274, (List.forall_mem_cons.mpr ⟨tw_273, (List.forall_mem_cons.mpr ⟨tw_272, (List.forall_mem_cons.mpr ⟨tw_271, (List.forall_mem_cons.mpr ⟨tw_270, (List.forall_mem_cons.mpr ⟨tw_269, (List.forall_mem_cons.mpr ⟨tw_107, (List.forall_mem_cons.mpr ⟨tw_268, (List.forall_mem_cons.mpr ⟨tw_267, (List.forall_mem_cons.mpr ⟨tw_266, (List.forall_mem_cons.mpr ⟨tw_265, (List.forall_mem_cons.mpr ⟨tw_264, (List.forall_mem_cons.mpr ⟨tw_263, (List.forall_mem_cons.mpr ⟨tw_288, (List.forall_mem_cons.mpr ⟨tw_287, (fun _ h => absurd h List.not_mem_nil)⟩)⟩)⟩)⟩)⟩)⟩)⟩)⟩)⟩)⟩)⟩)⟩)⟩)⟩)⟩)⟩)⟩)⟩)⟩)⟩)⟩)⟩)⟩)⟩)
set_option maxRecDepth 100000 in
theorem lt_wsX9_swept_r3 : ∀ w ∈ wsX9_swept_r3, w ∈ lw_tbl := (List.forall_mem_cons.mpr ⟨tw_286, (List.forall_mem_cons.mpr ⟨tw_108, (List.forall_mem_cons.mpr ⟨tw_106, (List.forall_mem_cons.mpr ⟨tw_285, (List.forall_mem_cons.mpr ⟨tw_284, (List.forall_mem_cons.mpr ⟨tw_283, (List.forall_mem_cons.mpr ⟨tw_282, (List.forall_mem_cons.mpr ⟨tw_281, (List.forall_mem_cons.mpr ⟨tw_280, (List.forall_mem_cons.mpr ⟨tw_389, (List.forall_mem_cons.mpr ⟨tw_388, (List.forall_mem_cons.mpr ⟨tw_387, (List.forall_mem_cons.mpr ⟨tw_386, (List.forall_mem_cons.mpr ⟨tw_376, (List.forall_mem_cons.mpr ⟨tw_375, (List.forall_mem_cons.mpr ⟨tw_383, (List.forall_mem_cons.mpr ⟨tw_382, (List.forall_mem_cons.mpr ⟨tw_381, (List.forall_mem_cons.mpr ⟨tw_380, (List.forall_mem_cons.mpr ⟨tw_176, (List.forall_mem_cons.mpr ⟨tw_175, (List.forall_mem_cons.mpr ⟨tw_174, (List.forall_mem_cons.mpr ⟨tw_379, (List.forall_mem_cons.mpr ⟨tw_411, (fun _ h => absurd h List.not_mem_nil)⟩)⟩)⟩)⟩)⟩)⟩)⟩)⟩)⟩)⟩)⟩)⟩)⟩)⟩)⟩)⟩)⟩)⟩)⟩)⟩)⟩)⟩)⟩)⟩)
set_option maxRecDepth 100000 in
theorem lt_wsX9_swept_r4 : ∀ w ∈ wsX9_swept_r4, w ∈ lw_tbl := (List.forall_mem_cons.mpr ⟨tw_410, (List.forall_mem_cons.mpr ⟨tw_409, (List.forall_mem_cons.mpr ⟨tw_408, (List.forall_mem_cons.mpr ⟨tw_407, (List.forall_mem_cons.mpr ⟨tw_406, (List.forall_mem_cons.mpr ⟨tw_405, (List.forall_mem_cons.mpr ⟨tw_404, (List.forall_mem_cons.mpr ⟨tw_403, (List.forall_mem_cons.mpr ⟨tw_402, (List.forall_mem_cons.mpr ⟨tw_401, (List.forall_mem_cons.mpr ⟨tw_400, (List.forall_mem_cons.mpr ⟨tw_399, (List.forall_mem_cons.mpr ⟨tw_398, (List.forall_mem_cons.mpr ⟨tw_397, (List.forall_mem_cons.mpr ⟨tw_396, (List.forall_mem_cons.mpr ⟨tw_395, (List.forall_mem_cons.mpr ⟨tw_394, (List.forall_mem_cons.mpr ⟨tw_393, (List.forall_mem_cons.mpr ⟨tw_392, (List.forall_mem_cons.mpr ⟨tw_391, (List.forall_mem_cons.mpr ⟨tw_390, (List.forall_mem_cons.mpr ⟨tw_203, (List.forall_mem_cons.mpr ⟨tw_202, (List.forall_mem_cons.mpr ⟨tw_201, (fun _ h => absurd h List.not_mem_nil)⟩)⟩)⟩)⟩)⟩)⟩)⟩)⟩)⟩)⟩)⟩)⟩)⟩)⟩)⟩)⟩)⟩)⟩)⟩)⟩)⟩)⟩)⟩)⟩)
set_option maxRecDepth 100000 in
theorem lt_wsX9_swept_r5 : ∀ w ∈ wsX9_swept_r5, w ∈ lw_tbl := (List.forall_mem_cons.mpr ⟨tw_200, (List.forall_mem_cons.mpr ⟨tw_431, (List.forall_mem_cons.mpr ⟨tw_430, (List.forall_mem_cons.mpr ⟨tw_429, (List.forall_mem_cons.mpr ⟨tw_428, (List.forall_mem_cons.mpr ⟨tw_427, (List.forall_mem_cons.mpr ⟨tw_426, (List.forall_mem_cons.mpr ⟨tw_425, (List.forall_mem_cons.mpr ⟨tw_424, (List.forall_mem_cons.mpr ⟨tw_423, (List.forall_mem_cons.mpr ⟨tw_422, (List.forall_mem_cons.mpr ⟨tw_421, (List.forall_mem_cons.mpr ⟨tw_420, (List.forall_mem_cons.mpr ⟨tw_419, (List.forall_mem_cons.mpr ⟨tw_418, (List.forall_mem_cons.mpr ⟨tw_417, (List.forall_mem_cons.mpr ⟨tw_416, (List.forall_mem_cons.mpr ⟨tw_415, (List.forall_mem_cons.mpr ⟨tw_414, (List.forall_mem_cons.mpr ⟨tw_413, (List.forall_mem_cons.mpr ⟨tw_412, (fun _ h => absurd h List.not_mem_nil)⟩)⟩)⟩)⟩)⟩)⟩)⟩)⟩)⟩)⟩)⟩)⟩)⟩)⟩)⟩)⟩)⟩)⟩)⟩)⟩)⟩)
set_option maxRecDepth 100000 in
theorem lt_wsX9_swept : ∀ w ∈ wsX9_swept, w ∈ lw_tbl := (List.forall_mem_cons.mpr ⟨tw_474, (List.forall_mem_append.mpr ⟨(List.forall_mem_append.mpr ⟨lt_wsX9_swept_r1, (List.forall_mem_append.mpr ⟨lt_wsX9_swept_r2, (List.forall_mem_append.mpr ⟨lt_wsX9_swept_r3, (List.forall_mem_append.mpr ⟨lt_wsX9_swept_r4, lt_wsX9_swept_r5⟩)⟩)⟩)⟩), lt_wsX90⟩)⟩)
set_option maxRecDepth 100000 in
theorem tw_475 : Cond.selects RX9 yX9_swept yX9_swept ∈ lw_tbl := List.mem_append_right _ (List.mem_append_right _ (List.mem_append_right _ (List.mem_append_right _ (List.mem_append_left _ (List.mem_of_getElem? (i := 146) rfl)))))
set_option maxRecDepth 100000 in
theorem tw_476 : Cond.instanceMethod yX9_swept ∈ lw_tbl := List.mem_append_right _ (List.mem_append_right _ (List.mem_append_right _ (List.mem_append_right _ (List.mem_append_left _ (List.mem_of_getElem? (i := 145) rfl)))))
set_option maxRecDepth 100000 in
theorem tw_477 : Cond.methodLink RL 60 yX9_swept ∈ lw_tbl := List.mem_append_right _ (List.mem_append_right _ (List.mem_append_right _ (List.mem_append_right _ (List.mem_append_left _ (List.mem_of_getElem? (i := 144) rfl)))))
set_option maxRecDepth 100000 in
theorem tw_478 : Cond.code yX8_done cX8_done 2 (some .int) ∈ lw_tbl := List.mem_append_right _ (List.mem_append_right _ (List.mem_append_left _ (List.mem_of_getElem? (i := 175) rfl)))
set_option maxRecDepth 100000 in
theorem tw_479 : Cond.fieldLink RX8 155 "HassockSee$Years" "acts" "I" ∈ lw_tbl := List.mem_append_right _ (List.mem_append_left _ (List.mem_of_getElem? (i := 78) rfl))
set_option maxRecDepth 100000 in
theorem lt_wsX8_done_r1 : ∀ w ∈ wsX8_done_r1, w ∈ lw_tbl := (List.forall_mem_cons.mpr ⟨tw_18, (List.forall_mem_cons.mpr ⟨tw_17, (List.forall_mem_cons.mpr ⟨tw_13, (List.forall_mem_cons.mpr ⟨tw_9, (List.forall_mem_cons.mpr ⟨tw_479, (List.forall_mem_cons.mpr ⟨tw_296, (List.forall_mem_cons.mpr ⟨tw_295, (List.forall_mem_cons.mpr ⟨tw_294, (List.forall_mem_cons.mpr ⟨tw_133, (List.forall_mem_cons.mpr ⟨tw_293, (List.forall_mem_cons.mpr ⟨tw_299, (List.forall_mem_cons.mpr ⟨tw_252, (List.forall_mem_cons.mpr ⟨tw_251, (List.forall_mem_cons.mpr ⟨tw_250, (List.forall_mem_cons.mpr ⟨tw_14, (List.forall_mem_cons.mpr ⟨tw_249, (List.forall_mem_cons.mpr ⟨tw_69, (List.forall_mem_cons.mpr ⟨tw_248, (List.forall_mem_cons.mpr ⟨tw_247, (List.forall_mem_cons.mpr ⟨tw_246, (List.forall_mem_cons.mpr ⟨tw_245, (List.forall_mem_cons.mpr ⟨tw_244, (List.forall_mem_cons.mpr ⟨tw_243, (List.forall_mem_cons.mpr ⟨tw_242, (fun _ h => absurd h List.not_mem_nil)⟩)⟩)⟩)⟩)⟩)⟩)⟩)⟩)⟩)⟩)⟩)⟩)⟩)⟩)⟩)⟩)⟩)⟩)⟩)⟩)⟩)⟩)⟩)⟩)
set_option maxRecDepth 100000 in
theorem lt_wsX8_done_r2 : ∀ w ∈ wsX8_done_r2, w ∈ lw_tbl := (List.forall_mem_cons.mpr ⟨tw_241, (List.forall_mem_cons.mpr ⟨tw_68, (List.forall_mem_cons.mpr ⟨tw_240, (List.forall_mem_cons.mpr ⟨tw_239, (List.forall_mem_cons.mpr ⟨tw_238, (List.forall_mem_cons.mpr ⟨tw_130, (List.forall_mem_cons.mpr ⟨tw_129, (List.forall_mem_cons.mpr ⟨tw_237, (List.forall_mem_cons.mpr ⟨tw_236, (List.forall_mem_cons.mpr ⟨tw_258, (List.forall_mem_cons.mpr ⟨tw_257, (List.forall_mem_cons.mpr ⟨tw_256, (List.forall_mem_cons.mpr ⟨tw_255, (List.forall_mem_cons.mpr ⟨tw_254, (List.forall_mem_cons.mpr ⟨tw_253, (List.forall_mem_cons.mpr ⟨tw_303, (List.forall_mem_cons.mpr ⟨tw_302, (List.forall_mem_cons.mpr ⟨tw_301, (List.forall_mem_cons.mpr ⟨tw_19, (List.forall_mem_cons.mpr ⟨tw_300, (List.forall_mem_cons.mpr ⟨tw_31, (List.forall_mem_cons.mpr ⟨tw_30, (List.forall_mem_cons.mpr ⟨tw_29, (List.forall_mem_cons.mpr ⟨tw_27, (fun _ h => absurd h List.not_mem_nil)⟩)⟩)⟩)⟩)⟩)⟩)⟩)⟩)⟩)⟩)⟩)⟩)⟩)⟩)⟩)⟩)⟩)⟩)⟩)⟩)⟩)⟩)⟩)⟩)
set_option maxRecDepth 100000 in
theorem lt_wsX8_done_r3 : ∀ w ∈ wsX8_done_r3, w ∈ lw_tbl := (List.forall_mem_cons.mpr ⟨tw_26, (List.forall_mem_cons.mpr ⟨tw_25, (List.forall_mem_cons.mpr ⟨tw_322, (List.forall_mem_cons.mpr ⟨tw_321, (List.forall_mem_cons.mpr ⟨tw_320, (List.forall_mem_cons.mpr ⟨tw_10, (List.forall_mem_cons.mpr ⟨tw_319, (List.forall_mem_cons.mpr ⟨tw_318, (List.forall_mem_cons.mpr ⟨tw_317, (List.forall_mem_cons.mpr ⟨tw_316, (List.forall_mem_cons.mpr ⟨tw_315, (List.forall_mem_cons.mpr ⟨tw_314, (List.forall_mem_cons.mpr ⟨tw_313, (List.forall_mem_cons.mpr ⟨tw_312, (List.forall_mem_cons.mpr ⟨tw_311, (List.forall_mem_cons.mpr ⟨tw_310, (List.forall_mem_cons.mpr ⟨tw_309, (List.forall_mem_cons.mpr ⟨tw_308, (List.forall_mem_cons.mpr ⟨tw_307, (List.forall_mem_cons.mpr ⟨tw_306, (List.forall_mem_cons.mpr ⟨tw_305, (List.forall_mem_cons.mpr ⟨tw_304, (List.forall_mem_cons.mpr ⟨tw_333, (List.forall_mem_cons.mpr ⟨tw_332, (fun _ h => absurd h List.not_mem_nil)⟩)⟩)⟩)⟩)⟩)⟩)⟩)⟩)⟩)⟩)⟩)⟩)⟩)⟩)⟩)⟩)⟩)⟩)⟩)⟩)⟩)⟩)⟩)⟩)
set_option maxRecDepth 100000 in
theorem lt_wsX8_done_r4 : ∀ w ∈ wsX8_done_r4, w ∈ lw_tbl := (List.forall_mem_cons.mpr ⟨tw_331, (List.forall_mem_cons.mpr ⟨tw_330, (List.forall_mem_cons.mpr ⟨tw_329, (List.forall_mem_cons.mpr ⟨tw_328, (List.forall_mem_cons.mpr ⟨tw_327, (List.forall_mem_cons.mpr ⟨tw_326, (List.forall_mem_cons.mpr ⟨tw_325, (List.forall_mem_cons.mpr ⟨tw_324, (List.forall_mem_cons.mpr ⟨tw_168, (List.forall_mem_cons.mpr ⟨tw_167, (List.forall_mem_cons.mpr ⟨tw_166, (List.forall_mem_cons.mpr ⟨tw_134, (List.forall_mem_cons.mpr ⟨tw_132, (List.forall_mem_cons.mpr ⟨tw_165, (List.forall_mem_cons.mpr ⟨tw_164, (List.forall_mem_cons.mpr ⟨tw_323, (List.forall_mem_cons.mpr ⟨tw_123, (List.forall_mem_cons.mpr ⟨tw_122, (List.forall_mem_cons.mpr ⟨tw_121, (List.forall_mem_cons.mpr ⟨tw_120, (List.forall_mem_cons.mpr ⟨tw_119, (List.forall_mem_cons.mpr ⟨tw_118, (List.forall_mem_cons.mpr ⟨tw_117, (List.forall_mem_cons.mpr ⟨tw_138, (fun _ h => absurd h List.not_mem_nil)⟩)⟩)⟩)⟩)⟩)⟩)⟩)⟩)⟩)⟩)⟩)⟩)⟩)⟩)⟩)⟩)⟩)⟩)⟩)⟩)⟩)⟩)⟩)⟩)
set_option maxRecDepth 100000 in
theorem lt_wsX8_done_r5 : ∀ w ∈ wsX8_done_r5, w ∈ lw_tbl := (List.forall_mem_cons.mpr ⟨tw_137, (List.forall_mem_cons.mpr ⟨tw_136, (List.forall_mem_cons.mpr ⟨tw_347, (List.forall_mem_cons.mpr ⟨tw_346, (List.forall_mem_cons.mpr ⟨tw_345, (List.forall_mem_cons.mpr ⟨tw_344, (List.forall_mem_cons.mpr ⟨tw_343, (List.forall_mem_cons.mpr ⟨tw_342, (List.forall_mem_cons.mpr ⟨tw_341, (List.forall_mem_cons.mpr ⟨tw_340, (List.forall_mem_cons.mpr ⟨tw_339, (List.forall_mem_cons.mpr ⟨tw_338, (List.forall_mem_cons.mpr ⟨tw_337, (List.forall_mem_cons.mpr ⟨tw_336, (List.forall_mem_cons.mpr ⟨tw_335, (List.forall_mem_cons.mpr ⟨tw_162, (List.forall_mem_cons.mpr ⟨tw_161, (List.forall_mem_cons.mpr ⟨tw_160, (List.forall_mem_cons.mpr ⟨tw_334, (List.forall_mem_cons.mpr ⟨tw_193, (List.forall_mem_cons.mpr ⟨tw_192, (List.forall_mem_cons.mpr ⟨tw_191, (List.forall_mem_cons.mpr ⟨tw_360, (List.forall_mem_cons.mpr ⟨tw_359, (fun _ h => absurd h List.not_mem_nil)⟩)⟩)⟩)⟩)⟩)⟩)⟩)⟩)⟩)⟩)⟩)⟩)⟩)⟩)⟩)⟩)⟩)⟩)⟩)⟩)⟩)⟩)⟩)⟩)
set_option maxRecDepth 100000 in
theorem lt_wsX8_done_r6 : ∀ w ∈ wsX8_done_r6, w ∈ lw_tbl := (List.forall_mem_cons.mpr ⟨tw_358, (List.forall_mem_cons.mpr ⟨tw_357, (List.forall_mem_cons.mpr ⟨tw_356, (List.forall_mem_cons.mpr ⟨tw_355, (List.forall_mem_cons.mpr ⟨tw_354, (List.forall_mem_cons.mpr ⟨tw_353, (List.forall_mem_cons.mpr ⟨tw_352, (List.forall_mem_cons.mpr ⟨tw_351, (List.forall_mem_cons.mpr ⟨tw_350, (List.forall_mem_cons.mpr ⟨tw_349, (List.forall_mem_cons.mpr ⟨tw_348, (List.forall_mem_cons.mpr ⟨tw_227, (List.forall_mem_cons.mpr ⟨tw_226, (List.forall_mem_cons.mpr ⟨tw_225, (List.forall_mem_cons.mpr ⟨tw_224, (fun _ h => absurd h List.not_mem_nil)⟩)⟩)⟩)⟩)⟩)⟩)⟩)⟩)⟩)⟩)⟩)⟩)⟩)⟩)⟩)
set_option maxRecDepth 100000 in
theorem lt_wsX8_done : ∀ w ∈ wsX8_done, w ∈ lw_tbl := (List.forall_mem_cons.mpr ⟨tw_478, (List.forall_mem_append.mpr ⟨(List.forall_mem_append.mpr ⟨(List.forall_mem_append.mpr ⟨(List.forall_mem_append.mpr ⟨(List.forall_mem_append.mpr ⟨lt_wsX8_done_r1, (List.forall_mem_append.mpr ⟨lt_wsX8_done_r2, (List.forall_mem_append.mpr ⟨lt_wsX8_done_r3, (List.forall_mem_append.mpr ⟨lt_wsX8_done_r4, (List.forall_mem_append.mpr ⟨lt_wsX8_done_r5, lt_wsX8_done_r6⟩)⟩)⟩)⟩)⟩), lt_wsX80⟩), lt_wsX70⟩), lt_wsX30⟩), lt_wsX10⟩)⟩)
set_option maxRecDepth 100000 in
theorem tw_480 : Cond.selects RX8 yX8_done yX8_done ∈ lw_tbl := List.mem_append_right _ (List.mem_append_right _ (List.mem_append_left _ (List.mem_of_getElem? (i := 174) rfl)))
set_option maxRecDepth 100000 in
theorem tw_481 : Cond.instanceMethod yX8_done ∈ lw_tbl := List.mem_append_right _ (List.mem_append_right _ (List.mem_append_left _ (List.mem_of_getElem? (i := 173) rfl)))
set_option maxRecDepth 100000 in
theorem tw_482 : Cond.methodLink RL 61 yX8_done ∈ lw_tbl := List.mem_append_right _ (List.mem_append_right _ (List.mem_append_left _ (List.mem_of_getElem? (i := 172) rfl)))
set_option maxRecDepth 100000 in
theorem tw_483 : Cond.code yX9_done cX9_done 2 (some .int) ∈ lw_tbl := List.mem_append_right _ (List.mem_append_right _ (List.mem_append_right _ (List.mem_append_right _ (List.mem_append_left _ (List.mem_of_getElem? (i := 151) rfl)))))
set_option maxRecDepth 100000 in
theorem lt_wsX9_done_r1 : ∀ w ∈ wsX9_done_r1, w ∈ lw_tbl := (List.forall_mem_cons.mpr ⟨tw_217, (List.forall_mem_cons.mpr ⟨tw_279, (List.forall_mem_cons.mpr ⟨tw_374, (List.forall_mem_cons.mpr ⟨tw_373, (List.forall_mem_cons.mpr ⟨tw_372, (List.forall_mem_cons.mpr ⟨tw_151, (List.forall_mem_cons.mpr ⟨tw_371, (List.forall_mem_cons.mpr ⟨tw_377, (List.forall_mem_cons.mpr ⟨tw_370, (List.forall_mem_cons.mpr ⟨tw_369, (List.forall_mem_cons.mpr ⟨tw_368, (List.forall_mem_cons.mpr ⟨tw_367, (List.forall_mem_cons.mpr ⟨tw_105, (List.forall_mem_cons.mpr ⟨tw_114, (List.forall_mem_cons.mpr ⟨tw_113, (List.forall_mem_cons.mpr ⟨tw_112, (List.forall_mem_cons.mpr ⟨tw_96, (List.forall_mem_cons.mpr ⟨tw_95, (List.forall_mem_cons.mpr ⟨tw_366, (List.forall_mem_cons.mpr ⟨tw_365, (List.forall_mem_cons.mpr ⟨tw_290, (List.forall_mem_cons.mpr ⟨tw_289, (List.forall_mem_cons.mpr ⟨tw_262, (List.forall_mem_cons.mpr ⟨tw_109, (fun _ h => absurd h List.not_mem_nil)⟩)⟩)⟩)⟩)⟩)⟩)⟩)⟩)⟩)⟩)⟩)⟩)⟩)⟩)⟩)⟩)⟩)⟩)⟩)⟩)⟩)⟩)⟩)⟩)
set_option maxRecDepth 100000 in
theorem lt_wsX9_done_r2 : ∀ w ∈ wsX9_done_r2, w ∈ lw_tbl := (List.forall_mem_cons.mpr ⟨tw_278, (List.forall_mem_cons.mpr ⟨tw_277, (List.forall_mem_cons.mpr ⟨tw_276, (List.forall_mem_cons.mpr ⟨tw_275, (List.forall_mem_cons.mpr ⟨tw_274, (List.forall_mem_cons.mpr ⟨tw_273, (List.forall_mem_cons.mpr ⟨tw_272, (List.forall_mem_cons.mpr ⟨tw_271, (List.forall_mem_cons.mpr ⟨tw_270, (List.forall_mem_cons.mpr ⟨tw_269, (List.forall_mem_cons.mpr ⟨tw_107, (List.forall_mem_cons.mpr ⟨tw_268, (List.forall_mem_cons.mpr ⟨tw_267, (List.forall_mem_cons.mpr ⟨tw_266, (List.forall_mem_cons.mpr ⟨tw_265, (List.forall_mem_cons.mpr ⟨tw_264, (List.forall_mem_cons.mpr ⟨tw_148, (List.forall_mem_cons.mpr ⟨tw_147, (List.forall_mem_cons.mpr ⟨tw_146, (List.forall_mem_cons.mpr ⟨tw_263, (List.forall_mem_cons.mpr ⟨tw_288, (List.forall_mem_cons.mpr ⟨tw_287, (List.forall_mem_cons.mpr ⟨tw_286, (List.forall_mem_cons.mpr ⟨tw_108, (fun _ h => absurd h List.not_mem_nil)⟩)⟩)⟩)⟩)⟩)⟩)⟩)⟩)⟩)⟩)⟩)⟩)⟩)⟩)⟩)⟩)⟩)⟩)⟩)⟩)⟩)⟩)⟩)⟩)
set_option maxRecDepth 100000 in
theorem lt_wsX9_done_r3 : ∀ w ∈ wsX9_done_r3, w ∈ lw_tbl := (List.forall_mem_cons.mpr ⟨tw_106, (List.forall_mem_cons.mpr ⟨tw_285, (List.forall_mem_cons.mpr ⟨tw_284, (List.forall_mem_cons.mpr ⟨tw_283, (List.forall_mem_cons.mpr ⟨tw_282, (List.forall_mem_cons.mpr ⟨tw_281, (List.forall_mem_cons.mpr ⟨tw_280, (List.forall_mem_cons.mpr ⟨tw_389, (List.forall_mem_cons.mpr ⟨tw_388, (List.forall_mem_cons.mpr ⟨tw_387, (List.forall_mem_cons.mpr ⟨tw_386, (List.forall_mem_cons.mpr ⟨tw_376, (List.forall_mem_cons.mpr ⟨tw_375, (List.forall_mem_cons.mpr ⟨tw_385, (List.forall_mem_cons.mpr ⟨tw_384, (List.forall_mem_cons.mpr ⟨tw_383, (List.forall_mem_cons.mpr ⟨tw_382, (List.forall_mem_cons.mpr ⟨tw_381, (List.forall_mem_cons.mpr ⟨tw_380, (List.forall_mem_cons.mpr ⟨tw_176, (List.forall_mem_cons.mpr ⟨tw_175, (List.forall_mem_cons.mpr ⟨tw_174, (List.forall_mem_cons.mpr ⟨tw_379, (List.forall_mem_cons.mpr ⟨tw_411, (fun _ h => absurd h List.not_mem_nil)⟩)⟩)⟩)⟩)⟩)⟩)⟩)⟩)⟩)⟩)⟩)⟩)⟩)⟩)⟩)⟩)⟩)⟩)⟩)⟩)⟩)⟩)⟩)⟩)
set_option maxRecDepth 100000 in
theorem lt_wsX9_done_r4 : ∀ w ∈ wsX9_done_r4, w ∈ lw_tbl := (List.forall_mem_cons.mpr ⟨tw_410, (List.forall_mem_cons.mpr ⟨tw_409, (List.forall_mem_cons.mpr ⟨tw_408, (List.forall_mem_cons.mpr ⟨tw_407, (List.forall_mem_cons.mpr ⟨tw_406, (List.forall_mem_cons.mpr ⟨tw_405, (List.forall_mem_cons.mpr ⟨tw_404, (List.forall_mem_cons.mpr ⟨tw_403, (List.forall_mem_cons.mpr ⟨tw_402, (List.forall_mem_cons.mpr ⟨tw_401, (List.forall_mem_cons.mpr ⟨tw_400, (List.forall_mem_cons.mpr ⟨tw_399, (List.forall_mem_cons.mpr ⟨tw_398, (List.forall_mem_cons.mpr ⟨tw_397, (List.forall_mem_cons.mpr ⟨tw_396, (List.forall_mem_cons.mpr ⟨tw_395, (List.forall_mem_cons.mpr ⟨tw_394, (List.forall_mem_cons.mpr ⟨tw_393, (List.forall_mem_cons.mpr ⟨tw_392, (List.forall_mem_cons.mpr ⟨tw_391, (List.forall_mem_cons.mpr ⟨tw_390, (List.forall_mem_cons.mpr ⟨tw_203, (List.forall_mem_cons.mpr ⟨tw_202, (List.forall_mem_cons.mpr ⟨tw_201, (fun _ h => absurd h List.not_mem_nil)⟩)⟩)⟩)⟩)⟩)⟩)⟩)⟩)⟩)⟩)⟩)⟩)⟩)⟩)⟩)⟩)⟩)⟩)⟩)⟩)⟩)⟩)⟩)⟩)
set_option maxRecDepth 100000 in
theorem lt_wsX9_done_r5 : ∀ w ∈ wsX9_done_r5, w ∈ lw_tbl := (List.forall_mem_cons.mpr ⟨tw_200, (List.forall_mem_cons.mpr ⟨tw_431, (List.forall_mem_cons.mpr ⟨tw_430, (List.forall_mem_cons.mpr ⟨tw_429, (List.forall_mem_cons.mpr ⟨tw_428, (List.forall_mem_cons.mpr ⟨tw_427, (List.forall_mem_cons.mpr ⟨tw_426, (List.forall_mem_cons.mpr ⟨tw_425, (List.forall_mem_cons.mpr ⟨tw_424, (List.forall_mem_cons.mpr ⟨tw_423, (List.forall_mem_cons.mpr ⟨tw_422, (List.forall_mem_cons.mpr ⟨tw_421, (List.forall_mem_cons.mpr ⟨tw_420, (List.forall_mem_cons.mpr ⟨tw_419, (List.forall_mem_cons.mpr ⟨tw_418, (List.forall_mem_cons.mpr ⟨tw_417, (List.forall_mem_cons.mpr ⟨tw_416, (List.forall_mem_cons.mpr ⟨tw_415, (List.forall_mem_cons.mpr ⟨tw_414, (List.forall_mem_cons.mpr ⟨tw_413, (List.forall_mem_cons.mpr ⟨tw_412, (fun _ h => absurd h List.not_mem_nil)⟩)⟩)⟩)⟩)⟩)⟩)⟩)⟩)⟩)⟩)⟩)⟩)⟩)⟩)⟩)⟩)⟩)⟩)⟩)⟩)⟩)
set_option maxRecDepth 100000 in
theorem lt_wsX9_done : ∀ w ∈ wsX9_done, w ∈ lw_tbl := (List.forall_mem_cons.mpr ⟨tw_483, (List.forall_mem_append.mpr ⟨(List.forall_mem_append.mpr ⟨lt_wsX9_done_r1, (List.forall_mem_append.mpr ⟨lt_wsX9_done_r2, (List.forall_mem_append.mpr ⟨lt_wsX9_done_r3, (List.forall_mem_append.mpr ⟨lt_wsX9_done_r4, lt_wsX9_done_r5⟩)⟩)⟩)⟩), lt_wsX90⟩)⟩)
set_option maxRecDepth 100000 in
theorem tw_484 : Cond.selects RX9 yX9_done yX9_done ∈ lw_tbl := List.mem_append_right _ (List.mem_append_right _ (List.mem_append_right _ (List.mem_append_right _ (List.mem_append_left _ (List.mem_of_getElem? (i := 150) rfl)))))
set_option maxRecDepth 100000 in
theorem tw_485 : Cond.instanceMethod yX9_done ∈ lw_tbl := List.mem_append_right _ (List.mem_append_right _ (List.mem_append_right _ (List.mem_append_right _ (List.mem_append_left _ (List.mem_of_getElem? (i := 149) rfl)))))
set_option maxRecDepth 100000 in
theorem tw_486 : Cond.methodLink RL 64 yX9_done ∈ lw_tbl := List.mem_append_right _ (List.mem_append_right _ (List.mem_append_right _ (List.mem_append_right _ (List.mem_append_left _ (List.mem_of_getElem? (i := 148) rfl)))))
set_option maxRecDepth 100000 in
theorem tw_487 : Cond.code yX8_borders cX8_borders 1 (some .int) ∈ lw_tbl := List.mem_append_right _ (List.mem_append_right _ (List.mem_append_left _ (List.mem_of_getElem? (i := 179) rfl)))
set_option maxRecDepth 100000 in
theorem tw_488 : Cond.code yX1_whoIsAt cX1_whoIsAt 3 (some .int) ∈ lw_tbl := List.mem_append_right _ (List.mem_append_right _ (List.mem_append_left _ (List.mem_of_getElem? (i := 187) rfl)))
set_option maxRecDepth 100000 in
theorem tw_489 : Cond.selects RX1 yX1_whoIsAt yX1_whoIsAt ∈ lw_tbl := List.mem_append_left _ (List.mem_of_getElem? (i := 9) rfl)
set_option maxRecDepth 100000 in
theorem tw_490 : Cond.instanceMethod yX1_whoIsAt ∈ lw_tbl := List.mem_append_right _ (List.mem_append_right _ (List.mem_append_left _ (List.mem_of_getElem? (i := 186) rfl)))
set_option maxRecDepth 100000 in
theorem tw_491 : Cond.methodLink RX1 45 yX1_whoIsAt ∈ lw_tbl := List.mem_append_right _ (List.mem_append_right _ (List.mem_append_left _ (List.mem_of_getElem? (i := 184) rfl)))
set_option maxRecDepth 100000 in
theorem tw_492 : Cond.code yX1_bordersInPlaces cX1_bordersInPlaces 5 (some .int) ∈ lw_tbl := List.mem_append_right _ (List.mem_append_right _ (List.mem_append_left _ (List.mem_of_getElem? (i := 183) rfl)))
set_option maxRecDepth 100000 in
theorem tw_493 : Cond.selects RX1 yX1_bordersInPlaces yX1_bordersInPlaces ∈ lw_tbl := List.mem_append_right _ (List.mem_append_right _ (List.mem_append_left _ (List.mem_of_getElem? (i := 182) rfl)))
set_option maxRecDepth 100000 in
theorem tw_494 : Cond.instanceMethod yX1_bordersInPlaces ∈ lw_tbl := List.mem_append_right _ (List.mem_append_right _ (List.mem_append_left _ (List.mem_of_getElem? (i := 181) rfl)))
set_option maxRecDepth 100000 in
theorem tw_495 : Cond.methodLink RX8 158 yX1_bordersInPlaces ∈ lw_tbl := List.mem_append_right _ (List.mem_append_right _ (List.mem_append_left _ (List.mem_of_getElem? (i := 180) rfl)))
set_option maxRecDepth 100000 in
theorem lt_wsX8_borders : ∀ w ∈ wsX8_borders, w ∈ lw_tbl := (List.forall_mem_cons.mpr ⟨tw_487, (List.forall_mem_append.mpr ⟨(List.forall_mem_append.mpr ⟨(List.forall_mem_cons.mpr ⟨tw_18, (List.forall_mem_cons.mpr ⟨tw_495, (List.forall_mem_cons.mpr ⟨tw_494, (List.forall_mem_cons.mpr ⟨tw_493, (List.forall_mem_cons.mpr ⟨tw_19, (List.forall_mem_cons.mpr ⟨tw_492, (List.forall_mem_cons.mpr ⟨tw_26, (List.forall_mem_cons.mpr ⟨tw_491, (List.forall_mem_cons.mpr ⟨tw_490, (List.forall_mem_cons.mpr ⟨tw_489, (List.forall_mem_cons.mpr ⟨tw_488, (List.forall_mem_cons.mpr ⟨tw_25, (List.forall_mem_cons.mpr ⟨tw_31, (List.forall_mem_cons.mpr ⟨tw_165, (List.forall_mem_cons.mpr ⟨tw_133, (List.forall_mem_cons.mpr ⟨tw_164, (List.forall_mem_cons.mpr ⟨tw_120, (List.forall_mem_cons.mpr ⟨tw_119, (List.forall_mem_cons.mpr ⟨tw_118, (List.forall_mem_cons.mpr ⟨tw_117, (List.forall_mem_cons.mpr ⟨tw_138, (List.forall_mem_cons.mpr ⟨tw_137, (List.forall_mem_cons.mpr ⟨tw_136, (fun _ h => absurd h List.not_mem_nil)⟩)⟩)⟩)⟩)⟩)⟩)⟩)⟩)⟩)⟩)⟩)⟩)⟩)⟩)⟩)⟩)⟩)⟩)⟩)⟩)⟩)⟩)⟩), lt_wsX80⟩), lt_wsX10⟩)⟩)
set_option maxRecDepth 100000 in
theorem tw_496 : Cond.selects RX8 yX8_borders yX8_borders ∈ lw_tbl := List.mem_append_right _ (List.mem_append_right _ (List.mem_append_left _ (List.mem_of_getElem? (i := 178) rfl)))
set_option maxRecDepth 100000 in
theorem tw_497 : Cond.instanceMethod yX8_borders ∈ lw_tbl := List.mem_append_right _ (List.mem_append_right _ (List.mem_append_left _ (List.mem_of_getElem? (i := 177) rfl)))
set_option maxRecDepth 100000 in
theorem tw_498 : Cond.methodLink RL 65 yX8_borders ∈ lw_tbl := List.mem_append_right _ (List.mem_append_right _ (List.mem_append_left _ (List.mem_of_getElem? (i := 176) rfl)))
set_option maxRecDepth 100000 in
theorem tw_499 : Cond.code yX9_borders cX9_borders 6 (some .int) ∈ lw_tbl := List.mem_append_right _ (List.mem_append_right _ (List.mem_append_right _ (List.mem_append_right _ (List.mem_append_left _ (List.mem_of_getElem? (i := 155) rfl)))))
set_option maxRecDepth 100000 in
theorem tw_500 : Cond.code yX9_unlike cX9_unlike 3 (some .int) ∈ lw_tbl := List.mem_append_right _ (List.mem_append_right _ (List.mem_append_right _ (List.mem_append_right _ (List.mem_append_left _ (List.mem_of_getElem? (i := 159) rfl)))))
set_option maxRecDepth 100000 in
theorem tw_501 : Cond.selects RX9 yX9_unlike yX9_unlike ∈ lw_tbl := List.mem_append_left _ (List.mem_of_getElem? (i := 43) rfl)
set_option maxRecDepth 100000 in
theorem tw_502 : Cond.instanceMethod yX9_unlike ∈ lw_tbl := List.mem_append_right _ (List.mem_append_right _ (List.mem_append_right _ (List.mem_append_right _ (List.mem_append_left _ (List.mem_of_getElem? (i := 158) rfl)))))
set_option maxRecDepth 100000 in
theorem tw_503 : Cond.methodLink RX9 215 yX9_unlike ∈ lw_tbl := List.mem_append_right _ (List.mem_append_right _ (List.mem_append_right _ (List.mem_append_right _ (List.mem_append_left _ (List.mem_of_getElem? (i := 156) rfl)))))
set_option maxRecDepth 100000 in
theorem lt_wsX9_borders : ∀ w ∈ wsX9_borders, w ∈ lw_tbl := (List.forall_mem_cons.mpr ⟨tw_499, (List.forall_mem_append.mpr ⟨(List.forall_mem_cons.mpr ⟨tw_112, (List.forall_mem_cons.mpr ⟨tw_96, (List.forall_mem_cons.mpr ⟨tw_176, (List.forall_mem_cons.mpr ⟨tw_175, (List.forall_mem_cons.mpr ⟨tw_151, (List.forall_mem_cons.mpr ⟨tw_174, (List.forall_mem_cons.mpr ⟨tw_503, (List.forall_mem_cons.mpr ⟨tw_502, (List.forall_mem_cons.mpr ⟨tw_501, (List.forall_mem_cons.mpr ⟨tw_500, (List.forall_mem_cons.mpr ⟨tw_113, (List.forall_mem_cons.mpr ⟨tw_145, (List.forall_mem_cons.mpr ⟨tw_144, (List.forall_mem_cons.mpr ⟨tw_143, (fun _ h => absurd h List.not_mem_nil)⟩)⟩)⟩)⟩)⟩)⟩)⟩)⟩)⟩)⟩)⟩)⟩)⟩)⟩), lt_wsX90⟩)⟩)
set_option maxRecDepth 100000 in
theorem tw_504 : Cond.selects RX9 yX9_borders yX9_borders ∈ lw_tbl := List.mem_append_right _ (List.mem_append_right _ (List.mem_append_right _ (List.mem_append_right _ (List.mem_append_left _ (List.mem_of_getElem? (i := 154) rfl)))))
set_option maxRecDepth 100000 in
theorem tw_505 : Cond.instanceMethod yX9_borders ∈ lw_tbl := List.mem_append_right _ (List.mem_append_right _ (List.mem_append_right _ (List.mem_append_right _ (List.mem_append_left _ (List.mem_of_getElem? (i := 153) rfl)))))
set_option maxRecDepth 100000 in
theorem tw_506 : Cond.methodLink RL 68 yX9_borders ∈ lw_tbl := List.mem_append_right _ (List.mem_append_right _ (List.mem_append_right _ (List.mem_append_right _ (List.mem_append_left _ (List.mem_of_getElem? (i := 152) rfl)))))
set_option maxRecDepth 100000 in
theorem tw_507 : Cond.code yX8_row cX8_row 2 (some .int) ∈ lw_tbl := List.mem_append_right _ (List.mem_append_right _ (List.mem_append_left _ (List.mem_of_getElem? (i := 191) rfl)))
set_option maxRecDepth 100000 in
theorem tw_508 : Cond.methodLink RX0 54 yJ6_bitCount_0f7a4 ∈ lw_tbl := List.mem_append_right _ (List.mem_append_right _ (List.mem_append_left _ (List.mem_of_getElem? (i := 200) rfl)))
set_option maxRecDepth 100000 in
theorem tw_509 : Cond.fieldLink RX0 51 "HassockSee$Diocese" "stitches" "[I" ∈ lw_tbl := List.mem_append_right _ (List.mem_append_left _ (List.mem_of_getElem? (i := 38) rfl))
set_option maxRecDepth 100000 in
theorem tw_510 : Cond.code yX0_measureBorders cX0_measureBorders 4 none ∈ lw_tbl := List.mem_append_right _ (List.mem_append_right _ (List.mem_append_left _ (List.mem_of_getElem? (i := 199) rfl)))
set_option maxRecDepth 100000 in
theorem tw_511 : Cond.selects RX0 yX0_measureBorders yX0_measureBorders ∈ lw_tbl := List.mem_append_left _ (List.mem_of_getElem? (i := 10) rfl)
set_option maxRecDepth 100000 in
theorem tw_512 : Cond.instanceMethod yX0_measureBorders ∈ lw_tbl := List.mem_append_right _ (List.mem_append_right _ (List.mem_append_left _ (List.mem_of_getElem? (i := 198) rfl)))
set_option maxRecDepth 100000 in
theorem tw_513 : Cond.methodLink RX0 33 yX0_measureBorders ∈ lw_tbl := List.mem_append_right _ (List.mem_append_right _ (List.mem_append_left _ (List.mem_of_getElem? (i := 196) rfl)))
set_option maxRecDepth 100000 in
theorem tw_514 : Cond.fieldLink RX0 44 "HassockSee$Arrangements" "firstInRow" "I" ∈ lw_tbl := List.mem_append_right _ (List.mem_append_left _ (List.mem_of_getElem? (i := 110) rfl))
set_option maxRecDepth 100000 in
theorem tw_515 : Cond.fieldLink RX0 41 "HassockSee$Arrangements" "leastBorders" "I" ∈ lw_tbl := List.mem_append_right _ (List.mem_append_left _ (List.mem_of_getElem? (i := 108) rfl))
set_option maxRecDepth 100000 in
theorem tw_516 : Cond.fieldLink RX0 27 "HassockSee$Diocese" "there" "I" ∈ lw_tbl := List.mem_append_right _ (List.mem_append_left _ (List.mem_of_getElem? (i := 28) rfl))
set_option maxRecDepth 100000 in
theorem tw_517 : Cond.code yX0_rank cX0_rank 4 none ∈ lw_tbl := List.mem_append_right _ (List.mem_append_right _ (List.mem_append_left _ (List.mem_of_getElem? (i := 195) rfl)))
set_option maxRecDepth 100000 in
theorem tw_518 : Cond.selects RX0 yX0_rank yX0_rank ∈ lw_tbl := List.mem_append_right _ (List.mem_append_right _ (List.mem_append_left _ (List.mem_of_getElem? (i := 194) rfl)))
set_option maxRecDepth 100000 in
theorem tw_519 : Cond.instanceMethod yX0_rank ∈ lw_tbl := List.mem_append_right _ (List.mem_append_right _ (List.mem_append_left _ (List.mem_of_getElem? (i := 193) rfl)))
set_option maxRecDepth 100000 in
theorem tw_520 : Cond.methodLink RX8 161 yX0_rank ∈ lw_tbl := List.mem_append_right _ (List.mem_append_right _ (List.mem_append_left _ (List.mem_of_getElem? (i := 192) rfl)))
set_option maxRecDepth 100000 in
theorem tw_521 : Cond.fieldLink RX8 167 "HassockSee$Arrangements" "firstInRow" "I" ∈ lw_tbl := List.mem_append_right _ (List.mem_append_left _ (List.mem_of_getElem? (i := 111) rfl))
set_option maxRecDepth 100000 in
theorem tw_522 : Cond.fieldLink RX8 164 "HassockSee$Arrangements" "leastBorders" "I" ∈ lw_tbl := List.mem_append_right _ (List.mem_append_left _ (List.mem_of_getElem? (i := 109) rfl))
set_option maxRecDepth 100000 in
theorem lt_wsX8_row_r1 : ∀ w ∈ wsX8_row_r1, w ∈ lw_tbl := (List.forall_mem_cons.mpr ⟨tw_5, (List.forall_mem_cons.mpr ⟨tw_18, (List.forall_mem_cons.mpr ⟨tw_522, (List.forall_mem_cons.mpr ⟨tw_521, (List.forall_mem_cons.mpr ⟨tw_131, (List.forall_mem_cons.mpr ⟨tw_130, (List.forall_mem_cons.mpr ⟨tw_133, (List.forall_mem_cons.mpr ⟨tw_129, (List.forall_mem_cons.mpr ⟨tw_520, (List.forall_mem_cons.mpr ⟨tw_519, (List.forall_mem_cons.mpr ⟨tw_518, (List.forall_mem_cons.mpr ⟨tw_6, (List.forall_mem_cons.mpr ⟨tw_517, (List.forall_mem_cons.mpr ⟨tw_516, (List.forall_mem_cons.mpr ⟨tw_515, (List.forall_mem_cons.mpr ⟨tw_514, (List.forall_mem_cons.mpr ⟨tw_60, (List.forall_mem_cons.mpr ⟨tw_513, (List.forall_mem_cons.mpr ⟨tw_512, (List.forall_mem_cons.mpr ⟨tw_511, (List.forall_mem_cons.mpr ⟨tw_510, (List.forall_mem_cons.mpr ⟨tw_61, (List.forall_mem_cons.mpr ⟨tw_509, (List.forall_mem_cons.mpr ⟨tw_508, (fun _ h => absurd h List.not_mem_nil)⟩)⟩)⟩)⟩)⟩)⟩)⟩)⟩)⟩)⟩)⟩)⟩)⟩)⟩)⟩)⟩)⟩)⟩)⟩)⟩)⟩)⟩)⟩)⟩)
set_option maxRecDepth 100000 in
theorem tw_523 : Cond.methodLink RX0 64 Lib.Math.min.name ∈ lw_tbl := List.mem_append_right _ (List.mem_append_right _ (List.mem_append_left _ (List.mem_of_getElem? (i := 210) rfl)))
set_option maxRecDepth 100000 in
theorem tw_524 : Cond.code yX0_leastRow cX0_leastRow 6 (some .int) ∈ lw_tbl := List.mem_append_right _ (List.mem_append_right _ (List.mem_append_left _ (List.mem_of_getElem? (i := 209) rfl)))
set_option maxRecDepth 100000 in
theorem tw_525 : Cond.selects RX0 yX0_leastRow yX0_leastRow ∈ lw_tbl := List.mem_append_left _ (List.mem_of_getElem? (i := 12) rfl)
set_option maxRecDepth 100000 in
theorem tw_526 : Cond.instanceMethod yX0_leastRow ∈ lw_tbl := List.mem_append_right _ (List.mem_append_right _ (List.mem_append_left _ (List.mem_of_getElem? (i := 208) rfl)))
set_option maxRecDepth 100000 in
theorem tw_527 : Cond.methodLink RX0 60 yX0_leastRow ∈ lw_tbl := List.mem_append_right _ (List.mem_append_right _ (List.mem_append_left _ (List.mem_of_getElem? (i := 206) rfl)))
set_option maxRecDepth 100000 in
theorem tw_528 : Cond.code yX0_rankSet cX0_rankSet 3 none ∈ lw_tbl := List.mem_append_right _ (List.mem_append_right _ (List.mem_append_left _ (List.mem_of_getElem? (i := 204) rfl)))
set_option maxRecDepth 100000 in
theorem tw_529 : Cond.selects RX0 yX0_rankSet yX0_rankSet ∈ lw_tbl := List.mem_append_left _ (List.mem_of_getElem? (i := 11) rfl)
set_option maxRecDepth 100000 in
theorem tw_530 : Cond.instanceMethod yX0_rankSet ∈ lw_tbl := List.mem_append_right _ (List.mem_append_right _ (List.mem_append_left _ (List.mem_of_getElem? (i := 203) rfl)))
set_option maxRecDepth 100000 in
theorem tw_531 : Cond.methodLink RX0 37 yX0_rankSet ∈ lw_tbl := List.mem_append_right _ (List.mem_append_right _ (List.mem_append_left _ (List.mem_of_getElem? (i := 201) rfl)))
set_option maxRecDepth 100000 in
theorem lt_wsX8_row_r2 : ∀ w ∈ wsX8_row_r2, w ∈ lw_tbl := (List.forall_mem_cons.mpr ⟨tw_119, (List.forall_mem_cons.mpr ⟨tw_118, (List.forall_mem_cons.mpr ⟨tw_117, (List.forall_mem_cons.mpr ⟨tw_138, (List.forall_mem_cons.mpr ⟨tw_137, (List.forall_mem_cons.mpr ⟨tw_136, (List.forall_mem_cons.mpr ⟨tw_531, (List.forall_mem_cons.mpr ⟨tw_530, (List.forall_mem_cons.mpr ⟨tw_529, (List.forall_mem_cons.mpr ⟨tw_528, (List.forall_mem_cons.mpr ⟨tw_165, (List.forall_mem_cons.mpr ⟨tw_164, (List.forall_mem_cons.mpr ⟨tw_527, (List.forall_mem_cons.mpr ⟨tw_526, (List.forall_mem_cons.mpr ⟨tw_525, (List.forall_mem_cons.mpr ⟨tw_524, (List.forall_mem_cons.mpr ⟨tw_523, (List.forall_mem_cons.mpr ⟨tw_342, (List.forall_mem_cons.mpr ⟨tw_341, (List.forall_mem_cons.mpr ⟨tw_340, (fun _ h => absurd h List.not_mem_nil)⟩)⟩)⟩)⟩)⟩)⟩)⟩)⟩)⟩)⟩)⟩)⟩)⟩)⟩)⟩)⟩)⟩)⟩)⟩)⟩)
set_option maxRecDepth 100000 in
theorem lt_wsX8_row : ∀ w ∈ wsX8_row, w ∈ lw_tbl := (List.forall_mem_cons.mpr ⟨tw_507, (List.forall_mem_append.mpr ⟨(List.forall_mem_append.mpr ⟨(List.forall_mem_append.mpr ⟨(List.forall_mem_append.mpr ⟨lt_wsX8_row_r1, lt_wsX8_row_r2⟩), lt_wsX80⟩), lt_wsX00⟩), lt_wsX10⟩)⟩)
set_option maxRecDepth 100000 in
theorem tw_532 : Cond.selects RX8 yX8_row yX8_row ∈ lw_tbl := List.mem_append_right _ (List.mem_append_right _ (List.mem_append_left _ (List.mem_of_getElem? (i := 190) rfl)))
set_option maxRecDepth 100000 in
theorem tw_533 : Cond.instanceMethod yX8_row ∈ lw_tbl := List.mem_append_right _ (List.mem_append_right _ (List.mem_append_left _ (List.mem_of_getElem? (i := 189) rfl)))
set_option maxRecDepth 100000 in
theorem tw_534 : Cond.methodLink RL 69 yX8_row ∈ lw_tbl := List.mem_append_right _ (List.mem_append_right _ (List.mem_append_left _ (List.mem_of_getElem? (i := 188) rfl)))
set_option maxRecDepth 100000 in
theorem tw_535 : Cond.code yX9_row cX9_row 5 (some .int) ∈ lw_tbl := List.mem_append_right _ (List.mem_append_right _ (List.mem_append_right _ (List.mem_append_right _ (List.mem_append_left _ (List.mem_of_getElem? (i := 163) rfl)))))
set_option maxRecDepth 100000 in
theorem tw_536 : Cond.code yX9_rowFrom cX9_rowFrom 6 (some .int) ∈ lw_tbl := List.mem_append_right _ (List.mem_append_right _ (List.mem_append_right _ (List.mem_append_right _ (List.mem_append_left _ (List.mem_of_getElem? (i := 167) rfl)))))
set_option maxRecDepth 100000 in
theorem tw_537 : Cond.selects RX9 yX9_rowFrom yX9_rowFrom ∈ lw_tbl := List.mem_append_left _ (List.mem_of_getElem? (i := 44) rfl)
set_option maxRecDepth 100000 in
theorem tw_538 : Cond.instanceMethod yX9_rowFrom ∈ lw_tbl := List.mem_append_right _ (List.mem_append_right _ (List.mem_append_right _ (List.mem_append_right _ (List.mem_append_left _ (List.mem_of_getElem? (i := 166) rfl)))))
set_option maxRecDepth 100000 in
theorem tw_539 : Cond.methodLink RX9 218 yX9_rowFrom ∈ lw_tbl := List.mem_append_right _ (List.mem_append_right _ (List.mem_append_right _ (List.mem_append_right _ (List.mem_append_left _ (List.mem_of_getElem? (i := 164) rfl)))))
set_option maxRecDepth 100000 in
theorem lt_wsX9_row : ∀ w ∈ wsX9_row, w ∈ lw_tbl := (List.forall_mem_cons.mpr ⟨tw_535, (List.forall_mem_append.mpr ⟨(List.forall_mem_cons.mpr ⟨tw_96, (List.forall_mem_cons.mpr ⟨tw_104, (List.forall_mem_cons.mpr ⟨tw_148, (List.forall_mem_cons.mpr ⟨tw_147, (List.forall_mem_cons.mpr ⟨tw_151, (List.forall_mem_cons.mpr ⟨tw_146, (List.forall_mem_cons.mpr ⟨tw_176, (List.forall_mem_cons.mpr ⟨tw_175, (List.forall_mem_cons.mpr ⟨tw_174, (List.forall_mem_cons.mpr ⟨tw_539, (List.forall_mem_cons.mpr ⟨tw_538, (List.forall_mem_cons.mpr ⟨tw_537, (List.forall_mem_cons.mpr ⟨tw_536, (List.forall_mem_cons.mpr ⟨tw_503, (List.forall_mem_cons.mpr ⟨tw_502, (List.forall_mem_cons.mpr ⟨tw_501, (List.forall_mem_cons.mpr ⟨tw_500, (List.forall_mem_cons.mpr ⟨tw_113, (List.forall_mem_cons.mpr ⟨tw_145, (List.forall_mem_cons.mpr ⟨tw_144, (List.forall_mem_cons.mpr ⟨tw_143, (List.forall_mem_cons.mpr ⟨tw_396, (List.forall_mem_cons.mpr ⟨tw_395, (List.forall_mem_cons.mpr ⟨tw_394, (fun _ h => absurd h List.not_mem_nil)⟩)⟩)⟩)⟩)⟩)⟩)⟩)⟩)⟩)⟩)⟩)⟩)⟩)⟩)⟩)⟩)⟩)⟩)⟩)⟩)⟩)⟩)⟩)⟩), lt_wsX90⟩)⟩)
set_option maxRecDepth 100000 in
theorem tw_540 : Cond.selects RX9 yX9_row yX9_row ∈ lw_tbl := List.mem_append_right _ (List.mem_append_right _ (List.mem_append_right _ (List.mem_append_right _ (List.mem_append_left _ (List.mem_of_getElem? (i := 162) rfl)))))
set_option maxRecDepth 100000 in
theorem tw_541 : Cond.instanceMethod yX9_row ∈ lw_tbl := List.mem_append_right _ (List.mem_append_right _ (List.mem_append_right _ (List.mem_append_right _ (List.mem_append_left _ (List.mem_of_getElem? (i := 161) rfl)))))
set_option maxRecDepth 100000 in
theorem tw_542 : Cond.methodLink RL 72 yX9_row ∈ lw_tbl := List.mem_append_right _ (List.mem_append_right _ (List.mem_append_right _ (List.mem_append_right _ (List.mem_append_left _ (List.mem_of_getElem? (i := 160) rfl)))))
set_option maxRecDepth 100000 in
theorem tw_543 : Cond.code yX8_most cX8_most 3 (some .int) ∈ lw_tbl := List.mem_append_right _ (List.mem_append_right _ (List.mem_append_left _ (List.mem_of_getElem? (i := 214) rfl)))
set_option maxRecDepth 100000 in
theorem tw_544 : Cond.selects RX0 yX0_reckonWith yX0_reckonWith ∈ lw_tbl := List.mem_append_left _ (List.mem_of_getElem? (i := 14) rfl)
set_option maxRecDepth 100000 in
theorem tw_545 : Cond.instanceMethod yX0_reckonWith ∈ lw_tbl := List.mem_append_right _ (List.mem_append_right _ (List.mem_append_left _ (List.mem_of_getElem? (i := 225) rfl)))
set_option maxRecDepth 100000 in
theorem tw_546 : Cond.methodLink RX0 73 yX0_reckonWith ∈ lw_tbl := List.mem_append_right _ (List.mem_append_right _ (List.mem_append_left _ (List.mem_of_getElem? (i := 223) rfl)))
set_option maxRecDepth 100000 in
theorem tw_547 : Cond.code yX0_mostUnions cX0_mostUnions 5 (some .int) ∈ lw_tbl := List.mem_append_right _ (List.mem_append_right _ (List.mem_append_left _ (List.mem_of_getElem? (i := 222) rfl)))
set_option maxRecDepth 100000 in
theorem tw_548 : Cond.selects RX0 yX0_mostUnions yX0_mostUnions ∈ lw_tbl := List.mem_append_left _ (List.mem_of_getElem? (i := 13) rfl)
set_option maxRecDepth 100000 in
theorem tw_549 : Cond.instanceMethod yX0_mostUnions ∈ lw_tbl := List.mem_append_right _ (List.mem_append_right _ (List.mem_append_left _ (List.mem_of_getElem? (i := 221) rfl)))
set_option maxRecDepth 100000 in
theorem tw_550 : Cond.methodLink RX0 69 yX0_mostUnions ∈ lw_tbl := List.mem_append_right _ (List.mem_append_right _ (List.mem_append_left _ (List.mem_of_getElem? (i := 219) rfl)))
set_option maxRecDepth 100000 in
theorem tw_551 : Cond.code yX0_mostParishes cX0_mostParishes 7 (some .int) ∈ lw_tbl := List.mem_append_right _ (List.mem_append_right _ (List.mem_append_left _ (List.mem_of_getElem? (i := 218) rfl)))
set_option maxRecDepth 100000 in
theorem tw_552 : Cond.selects RX0 yX0_mostParishes yX0_mostParishes ∈ lw_tbl := List.mem_append_right _ (List.mem_append_right _ (List.mem_append_left _ (List.mem_of_getElem? (i := 217) rfl)))
set_option maxRecDepth 100000 in
theorem tw_553 : Cond.instanceMethod yX0_mostParishes ∈ lw_tbl := List.mem_append_right _ (List.mem_append_right _ (List.mem_append_left _ (List.mem_of_getElem? (i := 216) rfl)))
set_option maxRecDepth 100000 in
theorem tw_554 : Cond.methodLink RX8 170 yX0_mostParishes ∈ lw_tbl := List.mem_append_right _ (List.mem_append_right _ (List.mem_append_left _ (List.mem_of_getElem? (i := 215) rfl)))
set_option maxRecDepth 100000 in
theorem lt_wsX8_most_r1 : ∀ w ∈ wsX8_most_r1, w ∈ lw_tbl := (List.forall_mem_cons.mpr ⟨tw_5, (List.forall_mem_cons.mpr ⟨tw_18, (List.forall_mem_cons.mpr ⟨tw_131, (List.forall_mem_cons.mpr ⟨tw_130, (List.forall_mem_cons.mpr ⟨tw_133, (List.forall_mem_cons.mpr ⟨tw_129, (List.forall_mem_cons.mpr ⟨tw_554, (List.forall_mem_cons.mpr ⟨tw_553, (List.forall_mem_cons.mpr ⟨tw_552, (List.forall_mem_cons.mpr ⟨tw_6, (List.forall_mem_cons.mpr ⟨tw_551, (List.forall_mem_cons.mpr ⟨tw_509, (List.forall_mem_cons.mpr ⟨tw_516, (List.forall_mem_cons.mpr ⟨tw_165, (List.forall_mem_cons.mpr ⟨tw_164, (List.forall_mem_cons.mpr ⟨tw_550, (List.forall_mem_cons.mpr ⟨tw_549, (List.forall_mem_cons.mpr ⟨tw_548, (List.forall_mem_cons.mpr ⟨tw_547, (List.forall_mem_cons.mpr ⟨tw_59, (List.forall_mem_cons.mpr ⟨tw_58, (List.forall_mem_cons.mpr ⟨tw_546, (List.forall_mem_cons.mpr ⟨tw_545, (List.forall_mem_cons.mpr ⟨tw_544, (fun _ h => absurd h List.not_mem_nil)⟩)⟩)⟩)⟩)⟩)⟩)⟩)⟩)⟩)⟩)⟩)⟩)⟩)⟩)⟩)⟩)⟩)⟩)⟩)⟩)⟩)⟩)⟩)⟩)
set_option maxRecDepth 100000 in
theorem tw_555 : Cond.code yX1_howManyHaveSome cX1_howManyHaveSome 4 (some .int) ∈ lw_tbl := List.mem_append_right _ (List.mem_append_right _ (List.mem_append_left _ (List.mem_of_getElem? (i := 237) rfl)))
set_option maxRecDepth 100000 in
theorem tw_556 : Cond.selects RX1 yX1_howManyHaveSome yX1_howManyHaveSome ∈ lw_tbl := List.mem_append_right _ (List.mem_append_right _ (List.mem_append_left _ (List.mem_of_getElem? (i := 236) rfl)))
set_option maxRecDepth 100000 in
theorem tw_557 : Cond.instanceMethod yX1_howManyHaveSome ∈ lw_tbl := List.mem_append_right _ (List.mem_append_right _ (List.mem_append_left _ (List.mem_of_getElem? (i := 235) rfl)))
set_option maxRecDepth 100000 in
theorem tw_558 : Cond.methodLink RX8 174 yX1_howManyHaveSome ∈ lw_tbl := List.mem_append_right _ (List.mem_append_right _ (List.mem_append_left _ (List.mem_of_getElem? (i := 234) rfl)))
set_option maxRecDepth 100000 in
theorem tw_559 : Cond.code Lib.Math.max.name Lib.Math.max.code 2 (some .int) ∈ lw_tbl := List.mem_append_right _ (List.mem_append_right _ (List.mem_append_left _ (List.mem_of_getElem? (i := 233) rfl)))
set_option maxRecDepth 100000 in
theorem tw_560 : Cond.static Lib.Math.max.name ∈ lw_tbl := List.mem_append_right _ (List.mem_append_right _ (List.mem_append_left _ (List.mem_of_getElem? (i := 232) rfl)))
set_option maxRecDepth 100000 in
theorem tw_561 : Cond.methodLink RX0 81 Lib.Math.max.name ∈ lw_tbl := List.mem_append_right _ (List.mem_append_right _ (List.mem_append_left _ (List.mem_of_getElem? (i := 231) rfl)))
set_option maxRecDepth 100000 in
theorem tw_562 : Cond.code yX0_mostWith cX0_mostWith 7 (some .int) ∈ lw_tbl := List.mem_append_right _ (List.mem_append_right _ (List.mem_append_left _ (List.mem_of_getElem? (i := 230) rfl)))
set_option maxRecDepth 100000 in
theorem tw_563 : Cond.selects RX0 yX0_mostWith yX0_mostWith ∈ lw_tbl := List.mem_append_left _ (List.mem_of_getElem? (i := 15) rfl)
set_option maxRecDepth 100000 in
theorem tw_564 : Cond.instanceMethod yX0_mostWith ∈ lw_tbl := List.mem_append_right _ (List.mem_append_right _ (List.mem_append_left _ (List.mem_of_getElem? (i := 229) rfl)))
set_option maxRecDepth 100000 in
theorem tw_565 : Cond.methodLink RX0 77 yX0_mostWith ∈ lw_tbl := List.mem_append_right _ (List.mem_append_right _ (List.mem_append_left _ (List.mem_of_getElem? (i := 227) rfl)))
set_option maxRecDepth 100000 in
theorem tw_566 : Cond.code yX0_reckonWith cX0_reckonWith 7 none ∈ lw_tbl := List.mem_append_right _ (List.mem_append_right _ (List.mem_append_left _ (List.mem_of_getElem? (i := 226) rfl)))
set_option maxRecDepth 100000 in
theorem lt_wsX8_most_r2 : ∀ w ∈ wsX8_most_r2, w ∈ lw_tbl := (List.forall_mem_cons.mpr ⟨tw_566, (List.forall_mem_cons.mpr ⟨tw_565, (List.forall_mem_cons.mpr ⟨tw_564, (List.forall_mem_cons.mpr ⟨tw_563, (List.forall_mem_cons.mpr ⟨tw_562, (List.forall_mem_cons.mpr ⟨tw_561, (List.forall_mem_cons.mpr ⟨tw_560, (List.forall_mem_cons.mpr ⟨tw_341, (List.forall_mem_cons.mpr ⟨tw_559, (List.forall_mem_cons.mpr ⟨tw_558, (List.forall_mem_cons.mpr ⟨tw_557, (List.forall_mem_cons.mpr ⟨tw_556, (List.forall_mem_cons.mpr ⟨tw_19, (List.forall_mem_cons.mpr ⟨tw_555, (List.forall_mem_cons.mpr ⟨tw_31, (List.forall_mem_cons.mpr ⟨tw_26, (fun _ h => absurd h List.not_mem_nil)⟩)⟩)⟩)⟩)⟩)⟩)⟩)⟩)⟩)⟩)⟩)⟩)⟩)⟩)⟩)⟩)
set_option maxRecDepth 100000 in
theorem lt_wsX8_most : ∀ w ∈ wsX8_most, w ∈ lw_tbl := (List.forall_mem_cons.mpr ⟨tw_543, (List.forall_mem_append.mpr ⟨(List.forall_mem_append.mpr ⟨(List.forall_mem_append.mpr ⟨(List.forall_mem_append.mpr ⟨lt_wsX8_most_r1, lt_wsX8_most_r2⟩), lt_wsX80⟩), lt_wsX10⟩), lt_wsX00⟩)⟩)
set_option maxRecDepth 100000 in
theorem tw_567 : Cond.selects RX8 yX8_most yX8_most ∈ lw_tbl := List.mem_append_right _ (List.mem_append_right _ (List.mem_append_left _ (List.mem_of_getElem? (i := 213) rfl)))
set_option maxRecDepth 100000 in
theorem tw_568 : Cond.instanceMethod yX8_most ∈ lw_tbl := List.mem_append_right _ (List.mem_append_right _ (List.mem_append_left _ (List.mem_of_getElem? (i := 212) rfl)))
set_option maxRecDepth 100000 in
theorem tw_569 : Cond.methodLink RL 73 yX8_most ∈ lw_tbl := List.mem_append_right _ (List.mem_append_right _ (List.mem_append_left _ (List.mem_of_getElem? (i := 211) rfl)))
set_option maxRecDepth 100000 in
theorem tw_570 : Cond.code yX9_most cX9_most 6 (some .int) ∈ lw_tbl := List.mem_append_right _ (List.mem_append_right _ (List.mem_append_right _ (List.mem_append_right _ (List.mem_append_left _ (List.mem_of_getElem? (i := 171) rfl)))))
set_option maxRecDepth 100000 in
theorem tw_571 : Cond.code yX9_groupsOf cX9_groupsOf 5 (some .int) ∈ lw_tbl := List.mem_append_right _ (List.mem_append_right _ (List.mem_append_right _ (List.mem_append_right _ (List.mem_append_left _ (List.mem_of_getElem? (i := 179) rfl)))))
set_option maxRecDepth 100000 in
theorem tw_572 : Cond.selects RX9 yX9_groupsOf yX9_groupsOf ∈ lw_tbl := List.mem_append_left _ (List.mem_of_getElem? (i := 46) rfl)
set_option maxRecDepth 100000 in
theorem tw_573 : Cond.instanceMethod yX9_groupsOf ∈ lw_tbl := List.mem_append_right _ (List.mem_append_right _ (List.mem_append_right _ (List.mem_append_right _ (List.mem_append_left _ (List.mem_of_getElem? (i := 178) rfl)))))
set_option maxRecDepth 100000 in
theorem tw_574 : Cond.methodLink RX9 224 yX9_groupsOf ∈ lw_tbl := List.mem_append_right _ (List.mem_append_right _ (List.mem_append_right _ (List.mem_append_right _ (List.mem_append_left _ (List.mem_of_getElem? (i := 176) rfl)))))
set_option maxRecDepth 100000 in
theorem tw_575 : Cond.code yX9_isCover cX9_isCover 5 (some .boolean) ∈ lw_tbl := List.mem_append_right _ (List.mem_append_right _ (List.mem_append_right _ (List.mem_append_right _ (List.mem_append_left _ (List.mem_of_getElem? (i := 175) rfl)))))
set_option maxRecDepth 100000 in
theorem tw_576 : Cond.selects RX9 yX9_isCover yX9_isCover ∈ lw_tbl := List.mem_append_left _ (List.mem_of_getElem? (i := 45) rfl)
set_option maxRecDepth 100000 in
theorem tw_577 : Cond.instanceMethod yX9_isCover ∈ lw_tbl := List.mem_append_right _ (List.mem_append_right _ (List.mem_append_right _ (List.mem_append_right _ (List.mem_append_left _ (List.mem_of_getElem? (i := 174) rfl)))))
set_option maxRecDepth 100000 in
theorem tw_578 : Cond.methodLink RX9 221 yX9_isCover ∈ lw_tbl := List.mem_append_right _ (List.mem_append_right _ (List.mem_append_right _ (List.mem_append_right _ (List.mem_append_left _ (List.mem_of_getElem? (i := 172) rfl)))))
set_option maxRecDepth 100000 in
theorem lt_wsX9_most : ∀ w ∈ wsX9_most, w ∈ lw_tbl := (List.forall_mem_cons.mpr ⟨tw_570, (List.forall_mem_append.mpr ⟨(List.forall_mem_cons.mpr ⟨tw_154, (List.forall_mem_cons.mpr ⟨tw_96, (List.forall_mem_cons.mpr ⟨tw_113, (List.forall_mem_cons.mpr ⟨tw_101, (List.forall_mem_cons.mpr ⟨tw_103, (List.forall_mem_cons.mpr ⟨tw_148, (List.forall_mem_cons.mpr ⟨tw_147, (List.forall_mem_cons.mpr ⟨tw_151, (List.forall_mem_cons.mpr ⟨tw_146, (List.forall_mem_cons.mpr ⟨tw_176, (List.forall_mem_cons.mpr ⟨tw_175, (List.forall_mem_cons.mpr ⟨tw_174, (List.forall_mem_cons.mpr ⟨tw_145, (List.forall_mem_cons.mpr ⟨tw_144, (List.forall_mem_cons.mpr ⟨tw_143, (List.forall_mem_cons.mpr ⟨tw_578, (List.forall_mem_cons.mpr ⟨tw_577, (List.forall_mem_cons.mpr ⟨tw_576, (List.forall_mem_cons.mpr ⟨tw_575, (List.forall_mem_cons.mpr ⟨tw_574, (List.forall_mem_cons.mpr ⟨tw_573, (List.forall_mem_cons.mpr ⟨tw_572, (List.forall_mem_cons.mpr ⟨tw_571, (fun _ h => absurd h List.not_mem_nil)⟩)⟩)⟩)⟩)⟩)⟩)⟩)⟩)⟩)⟩)⟩)⟩)⟩)⟩)⟩)⟩)⟩)⟩)⟩)⟩)⟩)⟩)⟩), lt_wsX90⟩)⟩)
set_option maxRecDepth 100000 in
theorem tw_579 : Cond.selects RX9 yX9_most yX9_most ∈ lw_tbl := List.mem_append_right _ (List.mem_append_right _ (List.mem_append_right _ (List.mem_append_right _ (List.mem_append_left _ (List.mem_of_getElem? (i := 170) rfl)))))
set_option maxRecDepth 100000 in
theorem tw_580 : Cond.instanceMethod yX9_most ∈ lw_tbl := List.mem_append_right _ (List.mem_append_right _ (List.mem_append_right _ (List.mem_append_right _ (List.mem_append_left _ (List.mem_of_getElem? (i := 169) rfl)))))
set_option maxRecDepth 100000 in
theorem tw_581 : Cond.methodLink RL 76 yX9_most ∈ lw_tbl := List.mem_append_right _ (List.mem_append_right _ (List.mem_append_right _ (List.mem_append_right _ (List.mem_append_left _ (List.mem_of_getElem? (i := 168) rfl)))))
set_option maxRecDepth 100000 in
theorem tw_582 : Cond.code yX8_pile cX8_pile 3 (some .int) ∈ lw_tbl := List.mem_append_right _ (List.mem_append_right _ (List.mem_append_right _ (List.mem_append_left _ (List.mem_of_getElem? (i := 1) rfl))))
set_option maxRecDepth 100000 in
theorem tw_583 : Cond.fieldLink RX0 88 "HassockSee$Diocese" "wool" "[I" ∈ lw_tbl := List.mem_append_right _ (List.mem_append_left _ (List.mem_of_getElem? (i := 36) rfl))
set_option maxRecDepth 100000 in
theorem tw_584 : Cond.code yX0_weighPile cX0_weighPile 5 (some .int) ∈ lw_tbl := List.mem_append_right _ (List.mem_append_right _ (List.mem_append_right _ (List.mem_append_left _ (List.mem_of_getElem? (i := 9) rfl))))
set_option maxRecDepth 100000 in
theorem tw_585 : Cond.selects RX0 yX0_weighPile yX0_weighPile ∈ lw_tbl := List.mem_append_left _ (List.mem_of_getElem? (i := 16) rfl)
set_option maxRecDepth 100000 in
theorem tw_586 : Cond.instanceMethod yX0_weighPile ∈ lw_tbl := List.mem_append_right _ (List.mem_append_right _ (List.mem_append_right _ (List.mem_append_left _ (List.mem_of_getElem? (i := 8) rfl))))
set_option maxRecDepth 100000 in
theorem tw_587 : Cond.methodLink RX0 84 yX0_weighPile ∈ lw_tbl := List.mem_append_right _ (List.mem_append_right _ (List.mem_append_right _ (List.mem_append_left _ (List.mem_of_getElem? (i := 6) rfl))))
set_option maxRecDepth 100000 in
theorem tw_588 : Cond.code yX0_highestPile cX0_highestPile 5 (some .int) ∈ lw_tbl := List.mem_append_right _ (List.mem_append_right _ (List.mem_append_right _ (List.mem_append_left _ (List.mem_of_getElem? (i := 5) rfl))))
set_option maxRecDepth 100000 in
theorem tw_589 : Cond.selects RX0 yX0_highestPile yX0_highestPile ∈ lw_tbl := List.mem_append_right _ (List.mem_append_right _ (List.mem_append_right _ (List.mem_append_left _ (List.mem_of_getElem? (i := 4) rfl))))
set_option maxRecDepth 100000 in
theorem tw_590 : Cond.instanceMethod yX0_highestPile ∈ lw_tbl := List.mem_append_right _ (List.mem_append_right _ (List.mem_append_right _ (List.mem_append_left _ (List.mem_of_getElem? (i := 3) rfl))))
set_option maxRecDepth 100000 in
theorem tw_591 : Cond.methodLink RX8 178 yX0_highestPile ∈ lw_tbl := List.mem_append_right _ (List.mem_append_right _ (List.mem_append_right _ (List.mem_append_left _ (List.mem_of_getElem? (i := 2) rfl))))
set_option maxRecDepth 100000 in
theorem lt_wsX8_pile_r1 : ∀ w ∈ wsX8_pile_r1, w ∈ lw_tbl := (List.forall_mem_cons.mpr ⟨tw_5, (List.forall_mem_cons.mpr ⟨tw_18, (List.forall_mem_cons.mpr ⟨tw_131, (List.forall_mem_cons.mpr ⟨tw_130, (List.forall_mem_cons.mpr ⟨tw_133, (List.forall_mem_cons.mpr ⟨tw_129, (List.forall_mem_cons.mpr ⟨tw_591, (List.forall_mem_cons.mpr ⟨tw_590, (List.forall_mem_cons.mpr ⟨tw_589, (List.forall_mem_cons.mpr ⟨tw_6, (List.forall_mem_cons.mpr ⟨tw_588, (List.forall_mem_cons.mpr ⟨tw_516, (List.forall_mem_cons.mpr ⟨tw_57, (List.forall_mem_cons.mpr ⟨tw_587, (List.forall_mem_cons.mpr ⟨tw_586, (List.forall_mem_cons.mpr ⟨tw_585, (List.forall_mem_cons.mpr ⟨tw_584, (List.forall_mem_cons.mpr ⟨tw_583, (List.forall_mem_cons.mpr ⟨tw_509, (List.forall_mem_cons.mpr ⟨tw_165, (List.forall_mem_cons.mpr ⟨tw_164, (List.forall_mem_cons.mpr ⟨tw_508, (List.forall_mem_cons.mpr ⟨tw_119, (List.forall_mem_cons.mpr ⟨tw_118, (fun _ h => absurd h List.not_mem_nil)⟩)⟩)⟩)⟩)⟩)⟩)⟩)⟩)⟩)⟩)⟩)⟩)⟩)⟩)⟩)⟩)⟩)⟩)⟩)⟩)⟩)⟩)⟩)⟩)
set_option maxRecDepth 100000 in
theorem tw_592 : Cond.methodLink RX8 182 yJ6_bitCount_0f7a4 ∈ lw_tbl := List.mem_append_right _ (List.mem_append_right _ (List.mem_append_right _ (List.mem_append_left _ (List.mem_of_getElem? (i := 10) rfl))))
set_option maxRecDepth 100000 in
theorem lt_wsX8_pile_r2 : ∀ w ∈ wsX8_pile_r2, w ∈ lw_tbl := (List.forall_mem_cons.mpr ⟨tw_117, (List.forall_mem_cons.mpr ⟨tw_138, (List.forall_mem_cons.mpr ⟨tw_137, (List.forall_mem_cons.mpr ⟨tw_136, (List.forall_mem_cons.mpr ⟨tw_592, (fun _ h => absurd h List.not_mem_nil)⟩)⟩)⟩)⟩)⟩)
set_option maxRecDepth 100000 in
theorem lt_wsX8_pile : ∀ w ∈ wsX8_pile, w ∈ lw_tbl := (List.forall_mem_cons.mpr ⟨tw_582, (List.forall_mem_append.mpr ⟨(List.forall_mem_append.mpr ⟨(List.forall_mem_append.mpr ⟨(List.forall_mem_append.mpr ⟨lt_wsX8_pile_r1, lt_wsX8_pile_r2⟩), lt_wsX80⟩), lt_wsX10⟩), lt_wsX00⟩)⟩)
set_option maxRecDepth 100000 in
theorem tw_593 : Cond.selects RX8 yX8_pile yX8_pile ∈ lw_tbl := List.mem_append_right _ (List.mem_append_right _ (List.mem_append_right _ (List.mem_append_left _ (List.mem_of_getElem? (i := 0) rfl))))
set_option maxRecDepth 100000 in
theorem tw_594 : Cond.instanceMethod yX8_pile ∈ lw_tbl := List.mem_append_right _ (List.mem_append_right _ (List.mem_append_left _ (List.mem_of_getElem? (i := 239) rfl)))
set_option maxRecDepth 100000 in
theorem tw_595 : Cond.methodLink RL 77 yX8_pile ∈ lw_tbl := List.mem_append_right _ (List.mem_append_right _ (List.mem_append_left _ (List.mem_of_getElem? (i := 238) rfl)))
set_option maxRecDepth 100000 in
theorem tw_596 : Cond.code yX9_pile cX9_pile 5 (some .int) ∈ lw_tbl := List.mem_append_right _ (List.mem_append_right _ (List.mem_append_right _ (List.mem_append_right _ (List.mem_append_left _ (List.mem_of_getElem? (i := 183) rfl)))))
set_option maxRecDepth 100000 in
theorem tw_597 : Cond.code yX9_weight cX9_weight 2 (some .int) ∈ lw_tbl := List.mem_append_right _ (List.mem_append_right _ (List.mem_append_right _ (List.mem_append_right _ (List.mem_append_left _ (List.mem_of_getElem? (i := 195) rfl)))))
set_option maxRecDepth 100000 in
theorem tw_598 : Cond.selects RX9 yX9_weight yX9_weight ∈ lw_tbl := List.mem_append_left _ (List.mem_of_getElem? (i := 49) rfl)
set_option maxRecDepth 100000 in
theorem tw_599 : Cond.instanceMethod yX9_weight ∈ lw_tbl := List.mem_append_right _ (List.mem_append_right _ (List.mem_append_right _ (List.mem_append_right _ (List.mem_append_left _ (List.mem_of_getElem? (i := 194) rfl)))))
set_option maxRecDepth 100000 in
theorem tw_600 : Cond.methodLink RX9 227 yX9_weight ∈ lw_tbl := List.mem_append_right _ (List.mem_append_right _ (List.mem_append_right _ (List.mem_append_right _ (List.mem_append_left _ (List.mem_of_getElem? (i := 192) rfl)))))
set_option maxRecDepth 100000 in
theorem tw_601 : Cond.code yX9_nextOf cX9_nextOf 5 (some .int) ∈ lw_tbl := List.mem_append_right _ (List.mem_append_right _ (List.mem_append_right _ (List.mem_append_right _ (List.mem_append_left _ (List.mem_of_getElem? (i := 191) rfl)))))
set_option maxRecDepth 100000 in
theorem tw_602 : Cond.selects RX9 yX9_nextOf yX9_nextOf ∈ lw_tbl := List.mem_append_left _ (List.mem_of_getElem? (i := 48) rfl)
set_option maxRecDepth 100000 in
theorem tw_603 : Cond.instanceMethod yX9_nextOf ∈ lw_tbl := List.mem_append_right _ (List.mem_append_right _ (List.mem_append_right _ (List.mem_append_right _ (List.mem_append_left _ (List.mem_of_getElem? (i := 190) rfl)))))
set_option maxRecDepth 100000 in
theorem tw_604 : Cond.methodLink RX9 233 yX9_nextOf ∈ lw_tbl := List.mem_append_right _ (List.mem_append_right _ (List.mem_append_right _ (List.mem_append_right _ (List.mem_append_left _ (List.mem_of_getElem? (i := 188) rfl)))))
set_option maxRecDepth 100000 in
theorem tw_605 : Cond.code yX9_isPile cX9_isPile 6 (some .boolean) ∈ lw_tbl := List.mem_append_right _ (List.mem_append_right _ (List.mem_append_right _ (List.mem_append_right _ (List.mem_append_left _ (List.mem_of_getElem? (i := 187) rfl)))))
set_option maxRecDepth 100000 in
theorem tw_606 : Cond.selects RX9 yX9_isPile yX9_isPile ∈ lw_tbl := List.mem_append_left _ (List.mem_of_getElem? (i := 47) rfl)
set_option maxRecDepth 100000 in
theorem tw_607 : Cond.instanceMethod yX9_isPile ∈ lw_tbl := List.mem_append_right _ (List.mem_append_right _ (List.mem_append_right _ (List.mem_append_right _ (List.mem_append_left _ (List.mem_of_getElem? (i := 186) rfl)))))
set_option maxRecDepth 100000 in
theorem tw_608 : Cond.methodLink RX9 236 yX9_isPile ∈ lw_tbl := List.mem_append_right _ (List.mem_append_right _ (List.mem_append_right _ (List.mem_append_right _ (List.mem_append_left _ (List.mem_of_getElem? (i := 184) rfl)))))
set_option maxRecDepth 100000 in
theorem lt_wsX9_pile_r1 : ∀ w ∈ wsX9_pile_r1, w ∈ lw_tbl := (List.forall_mem_cons.mpr ⟨tw_96, (List.forall_mem_cons.mpr ⟨tw_148, (List.forall_mem_cons.mpr ⟨tw_147, (List.forall_mem_cons.mpr ⟨tw_151, (List.forall_mem_cons.mpr ⟨tw_146, (List.forall_mem_cons.mpr ⟨tw_145, (List.forall_mem_cons.mpr ⟨tw_144, (List.forall_mem_cons.mpr ⟨tw_143, (List.forall_mem_cons.mpr ⟨tw_608, (List.forall_mem_cons.mpr ⟨tw_607, (List.forall_mem_cons.mpr ⟨tw_606, (List.forall_mem_cons.mpr ⟨tw_605, (List.forall_mem_cons.mpr ⟨tw_604, (List.forall_mem_cons.mpr ⟨tw_603, (List.forall_mem_cons.mpr ⟨tw_602, (List.forall_mem_cons.mpr ⟨tw_601, (List.forall_mem_cons.mpr ⟨tw_176, (List.forall_mem_cons.mpr ⟨tw_175, (List.forall_mem_cons.mpr ⟨tw_174, (List.forall_mem_cons.mpr ⟨tw_600, (List.forall_mem_cons.mpr ⟨tw_599, (List.forall_mem_cons.mpr ⟨tw_598, (List.forall_mem_cons.mpr ⟨tw_597, (List.forall_mem_cons.mpr ⟨tw_113, (fun _ h => absurd h List.not_mem_nil)⟩)⟩)⟩)⟩)⟩)⟩)⟩)⟩)⟩)⟩)⟩)⟩)⟩)⟩)⟩)⟩)⟩)⟩)⟩)⟩)⟩)⟩)⟩)⟩)
set_option maxRecDepth 100000 in
theorem tw_609 : Cond.code yX9_bears cX9_bears 2 (some .int) ∈ lw_tbl := List.mem_append_right _ (List.mem_append_right _ (List.mem_append_right _ (List.mem_append_right _ (List.mem_append_left _ (List.mem_of_getElem? (i := 199) rfl)))))
set_option maxRecDepth 100000 in
theorem tw_610 : Cond.selects RX9 yX9_bears yX9_bears ∈ lw_tbl := List.mem_append_left _ (List.mem_of_getElem? (i := 50) rfl)
set_option maxRecDepth 100000 in
theorem tw_611 : Cond.instanceMethod yX9_bears ∈ lw_tbl := List.mem_append_right _ (List.mem_append_right _ (List.mem_append_right _ (List.mem_append_right _ (List.mem_append_left _ (List.mem_of_getElem? (i := 198) rfl)))))
set_option maxRecDepth 100000 in
theorem tw_612 : Cond.methodLink RX9 230 yX9_bears ∈ lw_tbl := List.mem_append_right _ (List.mem_append_right _ (List.mem_append_right _ (List.mem_append_right _ (List.mem_append_left _ (List.mem_of_getElem? (i := 196) rfl)))))
set_option maxRecDepth 100000 in
theorem lt_wsX9_pile_r2 : ∀ w ∈ wsX9_pile_r2, w ∈ lw_tbl := (List.forall_mem_cons.mpr ⟨tw_612, (List.forall_mem_cons.mpr ⟨tw_611, (List.forall_mem_cons.mpr ⟨tw_610, (List.forall_mem_cons.mpr ⟨tw_609, (List.forall_mem_cons.mpr ⟨tw_114, (fun _ h => absurd h List.not_mem_nil)⟩)⟩)⟩)⟩)⟩)
set_option maxRecDepth 100000 in
theorem lt_wsX9_pile : ∀ w ∈ wsX9_pile, w ∈ lw_tbl := (List.forall_mem_cons.mpr ⟨tw_596, (List.forall_mem_append.mpr ⟨(List.forall_mem_append.mpr ⟨lt_wsX9_pile_r1, lt_wsX9_pile_r2⟩), lt_wsX90⟩)⟩)
set_option maxRecDepth 100000 in
theorem tw_613 : Cond.selects RX9 yX9_pile yX9_pile ∈ lw_tbl := List.mem_append_right _ (List.mem_append_right _ (List.mem_append_right _ (List.mem_append_right _ (List.mem_append_left _ (List.mem_of_getElem? (i := 182) rfl)))))
set_option maxRecDepth 100000 in
theorem tw_614 : Cond.instanceMethod yX9_pile ∈ lw_tbl := List.mem_append_right _ (List.mem_append_right _ (List.mem_append_right _ (List.mem_append_right _ (List.mem_append_left _ (List.mem_of_getElem? (i := 181) rfl)))))
set_option maxRecDepth 100000 in
theorem tw_615 : Cond.methodLink RL 80 yX9_pile ∈ lw_tbl := List.mem_append_right _ (List.mem_append_right _ (List.mem_append_right _ (List.mem_append_right _ (List.mem_append_left _ (List.mem_of_getElem? (i := 180) rfl)))))
set_option maxRecDepth 100000 in
theorem tw_616 : Cond.code yX8_felt cX8_felt 3 (some .int) ∈ lw_tbl := List.mem_append_right _ (List.mem_append_right _ (List.mem_append_right _ (List.mem_append_left _ (List.mem_of_getElem? (i := 14) rfl))))
set_option maxRecDepth 100000 in
theorem tw_617 : Cond.code yX4_add cX4_add 3 (some .boolean) ∈ lw_tbl := List.mem_append_right _ (List.mem_append_right _ (List.mem_append_right _ (List.mem_append_left _ (List.mem_of_getElem? (i := 18) rfl))))
set_option maxRecDepth 100000 in
theorem tw_618 : Cond.selects RX4 yX4_add yX4_add ∈ lw_tbl := List.mem_append_right _ (List.mem_append_right _ (List.mem_append_right _ (List.mem_append_left _ (List.mem_of_getElem? (i := 17) rfl))))
set_option maxRecDepth 100000 in
theorem tw_619 : Cond.instanceMethod yX4_add ∈ lw_tbl := List.mem_append_right _ (List.mem_append_right _ (List.mem_append_right _ (List.mem_append_left _ (List.mem_of_getElem? (i := 16) rfl))))
set_option maxRecDepth 100000 in
theorem tw_620 : Cond.methodLink RX8 187 yX4_add ∈ lw_tbl := List.mem_append_right _ (List.mem_append_right _ (List.mem_append_right _ (List.mem_append_left _ (List.mem_of_getElem? (i := 15) rfl))))
set_option maxRecDepth 100000 in
theorem tw_621 : Cond.fieldLink RX8 191 "HassockSee$Sights" "count" "I" ∈ lw_tbl := List.mem_append_right _ (List.mem_append_left _ (List.mem_of_getElem? (i := 153) rfl))
set_option maxRecDepth 100000 in
theorem lt_wsX8_felt : ∀ w ∈ wsX8_felt, w ∈ lw_tbl := (List.forall_mem_cons.mpr ⟨tw_616, (List.forall_mem_append.mpr ⟨(List.forall_mem_append.mpr ⟨(List.forall_mem_cons.mpr ⟨tw_45, (List.forall_mem_cons.mpr ⟨tw_621, (List.forall_mem_cons.mpr ⟨tw_131, (List.forall_mem_cons.mpr ⟨tw_130, (List.forall_mem_cons.mpr ⟨tw_133, (List.forall_mem_cons.mpr ⟨tw_129, (List.forall_mem_cons.mpr ⟨tw_620, (List.forall_mem_cons.mpr ⟨tw_619, (List.forall_mem_cons.mpr ⟨tw_618, (List.forall_mem_cons.mpr ⟨tw_46, (List.forall_mem_cons.mpr ⟨tw_617, (List.forall_mem_cons.mpr ⟨tw_89, (List.forall_mem_cons.mpr ⟨tw_88, (List.forall_mem_cons.mpr ⟨tw_87, (fun _ h => absurd h List.not_mem_nil)⟩)⟩)⟩)⟩)⟩)⟩)⟩)⟩)⟩)⟩)⟩)⟩)⟩)⟩), lt_wsX80⟩), lt_wsX40⟩)⟩)
set_option maxRecDepth 100000 in
theorem tw_622 : Cond.selects RX8 yX8_felt yX8_felt ∈ lw_tbl := List.mem_append_right _ (List.mem_append_right _ (List.mem_append_right _ (List.mem_append_left _ (List.mem_of_getElem? (i := 13) rfl))))
set_option maxRecDepth 100000 in
theorem tw_623 : Cond.instanceMethod yX8_felt ∈ lw_tbl := List.mem_append_right _ (List.mem_append_right _ (List.mem_append_right _ (List.mem_append_left _ (List.mem_of_getElem? (i := 12) rfl))))
set_option maxRecDepth 100000 in
theorem tw_624 : Cond.methodLink RL 81 yX8_felt ∈ lw_tbl := List.mem_append_right _ (List.mem_append_right _ (List.mem_append_right _ (List.mem_append_left _ (List.mem_of_getElem? (i := 11) rfl))))
set_option maxRecDepth 100000 in
theorem tw_625 : Cond.code yX9_felt cX9_felt 3 (some .int) ∈ lw_tbl := List.mem_append_right _ (List.mem_append_right _ (List.mem_append_right _ (List.mem_append_right _ (List.mem_append_left _ (List.mem_of_getElem? (i := 203) rfl)))))
set_option maxRecDepth 100000 in
theorem tw_626 : Cond.fieldLink RX9 241 "HassockSeeModel" "sights" "I" ∈ lw_tbl := List.mem_append_right _ (List.mem_append_right _ (List.mem_append_right _ (List.mem_append_left _ (List.mem_of_getElem? (i := 143) rfl))))
set_option maxRecDepth 100000 in
theorem tw_627 : Cond.constantLong RX9 239 (60) ∈ lw_tbl := List.mem_append_right _ (List.mem_append_right _ (List.mem_append_right _ (List.mem_append_right _ (List.mem_append_left _ (List.mem_of_getElem? (i := 204) rfl)))))
set_option maxRecDepth 100000 in
theorem lt_wsX9_felt : ∀ w ∈ wsX9_felt, w ∈ lw_tbl := (List.forall_mem_cons.mpr ⟨tw_625, (List.forall_mem_append.mpr ⟨(List.forall_mem_cons.mpr ⟨tw_627, (List.forall_mem_cons.mpr ⟨tw_155, (List.forall_mem_cons.mpr ⟨tw_626, (List.forall_mem_cons.mpr ⟨tw_111, (List.forall_mem_cons.mpr ⟨tw_110, (List.forall_mem_cons.mpr ⟨tw_148, (List.forall_mem_cons.mpr ⟨tw_147, (List.forall_mem_cons.mpr ⟨tw_151, (List.forall_mem_cons.mpr ⟨tw_146, (fun _ h => absurd h List.not_mem_nil)⟩)⟩)⟩)⟩)⟩)⟩)⟩)⟩)⟩), lt_wsX90⟩)⟩)
set_option maxRecDepth 100000 in
theorem tw_628 : Cond.selects RX9 yX9_felt yX9_felt ∈ lw_tbl := List.mem_append_right _ (List.mem_append_right _ (List.mem_append_right _ (List.mem_append_right _ (List.mem_append_left _ (List.mem_of_getElem? (i := 202) rfl)))))
set_option maxRecDepth 100000 in
theorem tw_629 : Cond.instanceMethod yX9_felt ∈ lw_tbl := List.mem_append_right _ (List.mem_append_right _ (List.mem_append_right _ (List.mem_append_right _ (List.mem_append_left _ (List.mem_of_getElem? (i := 201) rfl)))))
set_option maxRecDepth 100000 in
theorem tw_630 : Cond.methodLink RL 84 yX9_felt ∈ lw_tbl := List.mem_append_right _ (List.mem_append_right _ (List.mem_append_right _ (List.mem_append_right _ (List.mem_append_left _ (List.mem_of_getElem? (i := 200) rfl)))))
set_option maxRecDepth 100000 in
theorem tw_631 : Cond.code yX8_forget cX8_forget 2 (some .int) ∈ lw_tbl := List.mem_append_right _ (List.mem_append_right _ (List.mem_append_right _ (List.mem_append_left _ (List.mem_of_getElem? (i := 22) rfl))))
set_option maxRecDepth 100000 in
theorem lt_wsX8_forget : ∀ w ∈ wsX8_forget, w ∈ lw_tbl := (List.forall_mem_cons.mpr ⟨tw_631, (List.forall_mem_append.mpr ⟨(List.forall_mem_append.mpr ⟨(List.forall_mem_cons.mpr ⟨tw_45, (List.forall_mem_cons.mpr ⟨tw_621, (fun _ h => absurd h List.not_mem_nil)⟩)⟩), lt_wsX80⟩), lt_wsX40⟩)⟩)
set_option maxRecDepth 100000 in
theorem tw_632 : Cond.selects RX8 yX8_forget yX8_forget ∈ lw_tbl := List.mem_append_right _ (List.mem_append_right _ (List.mem_append_right _ (List.mem_append_left _ (List.mem_of_getElem? (i := 21) rfl))))
set_option maxRecDepth 100000 in
theorem tw_633 : Cond.instanceMethod yX8_forget ∈ lw_tbl := List.mem_append_right _ (List.mem_append_right _ (List.mem_append_right _ (List.mem_append_left _ (List.mem_of_getElem? (i := 20) rfl))))
set_option maxRecDepth 100000 in
theorem tw_634 : Cond.methodLink RL 85 yX8_forget ∈ lw_tbl := List.mem_append_right _ (List.mem_append_right _ (List.mem_append_right _ (List.mem_append_left _ (List.mem_of_getElem? (i := 19) rfl))))
set_option maxRecDepth 100000 in
theorem tw_635 : Cond.code yX9_forget cX9_forget 2 (some .int) ∈ lw_tbl := List.mem_append_right _ (List.mem_append_right _ (List.mem_append_right _ (List.mem_append_right _ (List.mem_append_left _ (List.mem_of_getElem? (i := 208) rfl)))))
set_option maxRecDepth 100000 in
theorem lt_wsX9_forget : ∀ w ∈ wsX9_forget, w ∈ lw_tbl := (List.forall_mem_cons.mpr ⟨tw_635, (List.forall_mem_append.mpr ⟨(List.forall_mem_cons.mpr ⟨tw_626, (fun _ h => absurd h List.not_mem_nil)⟩), lt_wsX90⟩)⟩)
set_option maxRecDepth 100000 in
theorem tw_636 : Cond.selects RX9 yX9_forget yX9_forget ∈ lw_tbl := List.mem_append_right _ (List.mem_append_right _ (List.mem_append_right _ (List.mem_append_right _ (List.mem_append_left _ (List.mem_of_getElem? (i := 207) rfl)))))
set_option maxRecDepth 100000 in
theorem tw_637 : Cond.instanceMethod yX9_forget ∈ lw_tbl := List.mem_append_right _ (List.mem_append_right _ (List.mem_append_right _ (List.mem_append_right _ (List.mem_append_left _ (List.mem_of_getElem? (i := 206) rfl)))))
set_option maxRecDepth 100000 in
theorem tw_638 : Cond.methodLink RL 88 yX9_forget ∈ lw_tbl := List.mem_append_right _ (List.mem_append_right _ (List.mem_append_right _ (List.mem_append_right _ (List.mem_append_left _ (List.mem_of_getElem? (i := 205) rfl)))))
set_option maxRecDepth 100000 in
theorem tw_639 : Cond.code yX8_fits cX8_fits 2 (some .int) ∈ lw_tbl := List.mem_append_right _ (List.mem_append_right _ (List.mem_append_right _ (List.mem_append_left _ (List.mem_of_getElem? (i := 26) rfl))))
set_option maxRecDepth 100000 in
theorem tw_640 : Cond.methodLink RX6 18 Lib.Math.max.name ∈ lw_tbl := List.mem_append_right _ (List.mem_append_right _ (List.mem_append_right _ (List.mem_append_left _ (List.mem_of_getElem? (i := 38) rfl))))
set_option maxRecDepth 100000 in
theorem tw_641 : Cond.code yX6_woolBehind cX6_woolBehind 3 (some .int) ∈ lw_tbl := List.mem_append_right _ (List.mem_append_right _ (List.mem_append_right _ (List.mem_append_left _ (List.mem_of_getElem? (i := 37) rfl))))
set_option maxRecDepth 100000 in
theorem tw_642 : Cond.static yX6_woolBehind ∈ lw_tbl := List.mem_append_right _ (List.mem_append_right _ (List.mem_append_right _ (List.mem_append_left _ (List.mem_of_getElem? (i := 36) rfl))))
set_option maxRecDepth 100000 in
theorem tw_643 : Cond.methodLink RX4 22 yX6_woolBehind ∈ lw_tbl := List.mem_append_right _ (List.mem_append_right _ (List.mem_append_right _ (List.mem_append_left _ (List.mem_of_getElem? (i := 35) rfl))))
set_option maxRecDepth 100000 in
theorem tw_644 : Cond.code yX4_allAreSo cX4_allAreSo 4 (some .boolean) ∈ lw_tbl := List.mem_append_right _ (List.mem_append_right _ (List.mem_append_right _ (List.mem_append_left _ (List.mem_of_getElem? (i := 34) rfl))))
set_option maxRecDepth 100000 in
theorem tw_645 : Cond.selects RX4 yX4_allAreSo yX4_allAreSo ∈ lw_tbl := List.mem_append_right _ (List.mem_append_right _ (List.mem_append_right _ (List.mem_append_left _ (List.mem_of_getElem? (i := 33) rfl))))
set_option maxRecDepth 100000 in
theorem tw_646 : Cond.instanceMethod yX4_allAreSo ∈ lw_tbl := List.mem_append_right _ (List.mem_append_right _ (List.mem_append_right _ (List.mem_append_left _ (List.mem_of_getElem? (i := 32) rfl))))
set_option maxRecDepth 100000 in
theorem tw_647 : Cond.methodLink RX6 28 yX4_allAreSo ∈ lw_tbl := List.mem_append_right _ (List.mem_append_right _ (List.mem_append_right _ (List.mem_append_left _ (List.mem_of_getElem? (i := 31) rfl))))
set_option maxRecDepth 100000 in
theorem tw_648 : Cond.fieldLink RX6 24 "HassockSee$Wear" "count" "I" ∈ lw_tbl := List.mem_append_right _ (List.mem_append_left _ (List.mem_of_getElem? (i := 169) rfl))
set_option maxRecDepth 100000 in
theorem tw_649 : Cond.code yX6_fit cX6_fit 4 none ∈ lw_tbl := List.mem_append_right _ (List.mem_append_right _ (List.mem_append_right _ (List.mem_append_left _ (List.mem_of_getElem? (i := 30) rfl))))
set_option maxRecDepth 100000 in
theorem tw_650 : Cond.selects RX6 yX6_fit yX6_fit ∈ lw_tbl := List.mem_append_right _ (List.mem_append_right _ (List.mem_append_right _ (List.mem_append_left _ (List.mem_of_getElem? (i := 29) rfl))))
set_option maxRecDepth 100000 in
theorem tw_651 : Cond.instanceMethod yX6_fit ∈ lw_tbl := List.mem_append_right _ (List.mem_append_right _ (List.mem_append_right _ (List.mem_append_left _ (List.mem_of_getElem? (i := 28) rfl))))
set_option maxRecDepth 100000 in
theorem tw_652 : Cond.methodLink RX8 192 yX6_fit ∈ lw_tbl := List.mem_append_right _ (List.mem_append_right _ (List.mem_append_right _ (List.mem_append_left _ (List.mem_of_getElem? (i := 27) rfl))))
set_option maxRecDepth 100000 in
theorem tw_653 : Cond.fieldLink RX8 196 "HassockSee$Wear" "count" "I" ∈ lw_tbl := List.mem_append_right _ (List.mem_append_left _ (List.mem_of_getElem? (i := 170) rfl))
set_option maxRecDepth 100000 in
theorem lt_wsX8_fits_r1 : ∀ w ∈ wsX8_fits_r1, w ∈ lw_tbl := (List.forall_mem_cons.mpr ⟨tw_41, (List.forall_mem_cons.mpr ⟨tw_45, (List.forall_mem_cons.mpr ⟨tw_653, (List.forall_mem_cons.mpr ⟨tw_652, (List.forall_mem_cons.mpr ⟨tw_651, (List.forall_mem_cons.mpr ⟨tw_650, (List.forall_mem_cons.mpr ⟨tw_42, (List.forall_mem_cons.mpr ⟨tw_649, (List.forall_mem_cons.mpr ⟨tw_648, (List.forall_mem_cons.mpr ⟨tw_83, (List.forall_mem_cons.mpr ⟨tw_647, (List.forall_mem_cons.mpr ⟨tw_646, (List.forall_mem_cons.mpr ⟨tw_645, (List.forall_mem_cons.mpr ⟨tw_46, (List.forall_mem_cons.mpr ⟨tw_644, (List.forall_mem_cons.mpr ⟨tw_89, (List.forall_mem_cons.mpr ⟨tw_88, (List.forall_mem_cons.mpr ⟨tw_87, (List.forall_mem_cons.mpr ⟨tw_643, (List.forall_mem_cons.mpr ⟨tw_642, (List.forall_mem_cons.mpr ⟨tw_641, (List.forall_mem_cons.mpr ⟨tw_640, (List.forall_mem_cons.mpr ⟨tw_560, (List.forall_mem_cons.mpr ⟨tw_341, (fun _ h => absurd h List.not_mem_nil)⟩)⟩)⟩)⟩)⟩)⟩)⟩)⟩)⟩)⟩)⟩)⟩)⟩)⟩)⟩)⟩)⟩)⟩)⟩)⟩)⟩)⟩)⟩)⟩)
set_option maxRecDepth 100000 in
theorem tw_654 : Cond.code yX6_fitAt cX6_fitAt 2 (some .int) ∈ lw_tbl := List.mem_append_right _ (List.mem_append_right _ (List.mem_append_right _ (List.mem_append_left _ (List.mem_of_getElem? (i := 42) rfl))))
set_option maxRecDepth 100000 in
theorem tw_655 : Cond.selects RX6 yX6_fitAt yX6_fitAt ∈ lw_tbl := List.mem_append_right _ (List.mem_append_right _ (List.mem_append_right _ (List.mem_append_left _ (List.mem_of_getElem? (i := 41) rfl))))
set_option maxRecDepth 100000 in
theorem tw_656 : Cond.instanceMethod yX6_fitAt ∈ lw_tbl := List.mem_append_right _ (List.mem_append_right _ (List.mem_append_right _ (List.mem_append_left _ (List.mem_of_getElem? (i := 40) rfl))))
set_option maxRecDepth 100000 in
theorem tw_657 : Cond.methodLink RX8 197 yX6_fitAt ∈ lw_tbl := List.mem_append_right _ (List.mem_append_right _ (List.mem_append_right _ (List.mem_append_left _ (List.mem_of_getElem? (i := 39) rfl))))
set_option maxRecDepth 100000 in
theorem lt_wsX8_fits_r2 : ∀ w ∈ wsX8_fits_r2, w ∈ lw_tbl := (List.forall_mem_cons.mpr ⟨tw_559, (List.forall_mem_cons.mpr ⟨tw_657, (List.forall_mem_cons.mpr ⟨tw_656, (List.forall_mem_cons.mpr ⟨tw_655, (List.forall_mem_cons.mpr ⟨tw_654, (fun _ h => absurd h List.not_mem_nil)⟩)⟩)⟩)⟩)⟩)
set_option maxRecDepth 100000 in
theorem lt_wsX8_fits : ∀ w ∈ wsX8_fits, w ∈ lw_tbl := (List.forall_mem_cons.mpr ⟨tw_639, (List.forall_mem_append.mpr ⟨(List.forall_mem_append.mpr ⟨(List.forall_mem_append.mpr ⟨(List.forall_mem_append.mpr ⟨lt_wsX8_fits_r1, lt_wsX8_fits_r2⟩), lt_wsX80⟩), lt_wsX60⟩), lt_wsX40⟩)⟩)
set_option maxRecDepth 100000 in
theorem tw_658 : Cond.selects RX8 yX8_fits yX8_fits ∈ lw_tbl := List.mem_append_right _ (List.mem_append_right _ (List.mem_append_right _ (List.mem_append_left _ (List.mem_of_getElem? (i := 25) rfl))))
set_option maxRecDepth 100000 in
theorem tw_659 : Cond.instanceMethod yX8_fits ∈ lw_tbl := List.mem_append_right _ (List.mem_append_right _ (List.mem_append_right _ (List.mem_append_left _ (List.mem_of_getElem? (i := 24) rfl))))
set_option maxRecDepth 100000 in
theorem tw_660 : Cond.methodLink RL 89 yX8_fits ∈ lw_tbl := List.mem_append_right _ (List.mem_append_right _ (List.mem_append_right _ (List.mem_append_left _ (List.mem_of_getElem? (i := 23) rfl))))
set_option maxRecDepth 100000 in
theorem tw_661 : Cond.code yX9_fits cX9_fits 4 (some .int) ∈ lw_tbl := List.mem_append_right _ (List.mem_append_right _ (List.mem_append_right _ (List.mem_append_right _ (List.mem_append_left _ (List.mem_of_getElem? (i := 212) rfl)))))
set_option maxRecDepth 100000 in
theorem tw_662 : Cond.code yX9_woolBy cX9_woolBy 3 (some .int) ∈ lw_tbl := List.mem_append_right _ (List.mem_append_right _ (List.mem_append_right _ (List.mem_append_right _ (List.mem_append_left _ (List.mem_of_getElem? (i := 219) rfl)))))
set_option maxRecDepth 100000 in
theorem tw_663 : Cond.static yX9_woolBy ∈ lw_tbl := List.mem_append_right _ (List.mem_append_right _ (List.mem_append_right _ (List.mem_append_right _ (List.mem_append_left _ (List.mem_of_getElem? (i := 218) rfl)))))
set_option maxRecDepth 100000 in
theorem tw_664 : Cond.methodLink RX9 244 yX9_woolBy ∈ lw_tbl := List.mem_append_right _ (List.mem_append_right _ (List.mem_append_right _ (List.mem_append_right _ (List.mem_append_left _ (List.mem_of_getElem? (i := 217) rfl)))))
set_option maxRecDepth 100000 in
theorem tw_665 : Cond.code yX9_isFit cX9_isFit 4 (some .boolean) ∈ lw_tbl := List.mem_append_right _ (List.mem_append_right _ (List.mem_append_right _ (List.mem_append_right _ (List.mem_append_left _ (List.mem_of_getElem? (i := 216) rfl)))))
set_option maxRecDepth 100000 in
theorem tw_666 : Cond.selects RX9 yX9_isFit yX9_isFit ∈ lw_tbl := List.mem_append_left _ (List.mem_of_getElem? (i := 51) rfl)
set_option maxRecDepth 100000 in
theorem tw_667 : Cond.instanceMethod yX9_isFit ∈ lw_tbl := List.mem_append_right _ (List.mem_append_right _ (List.mem_append_right _ (List.mem_append_right _ (List.mem_append_left _ (List.mem_of_getElem? (i := 215) rfl)))))
set_option maxRecDepth 100000 in
theorem tw_668 : Cond.methodLink RX9 247 yX9_isFit ∈ lw_tbl := List.mem_append_right _ (List.mem_append_right _ (List.mem_append_right _ (List.mem_append_right _ (List.mem_append_left _ (List.mem_of_getElem? (i := 213) rfl)))))
set_option maxRecDepth 100000 in
theorem lt_wsX9_fits : ∀ w ∈ wsX9_fits, w ∈ lw_tbl := (List.forall_mem_cons.mpr ⟨tw_661, (List.forall_mem_append.mpr ⟨(List.forall_mem_cons.mpr ⟨tw_668, (List.forall_mem_cons.mpr ⟨tw_667, (List.forall_mem_cons.mpr ⟨tw_666, (List.forall_mem_cons.mpr ⟨tw_151, (List.forall_mem_cons.mpr ⟨tw_665, (List.forall_mem_cons.mpr ⟨tw_626, (List.forall_mem_cons.mpr ⟨tw_111, (List.forall_mem_cons.mpr ⟨tw_110, (List.forall_mem_cons.mpr ⟨tw_664, (List.forall_mem_cons.mpr ⟨tw_663, (List.forall_mem_cons.mpr ⟨tw_662, (fun _ h => absurd h List.not_mem_nil)⟩)⟩)⟩)⟩)⟩)⟩)⟩)⟩)⟩)⟩)⟩), lt_wsX90⟩)⟩)
set_option maxRecDepth 100000 in
theorem tw_669 : Cond.selects RX9 yX9_fits yX9_fits ∈ lw_tbl := List.mem_append_right _ (List.mem_append_right _ (List.mem_append_right _ (List.mem_append_right _ (List.mem_append_left _ (List.mem_of_getElem? (i := 211) rfl)))))
set_option maxRecDepth 100000 in
theorem tw_670 : Cond.instanceMethod yX9_fits ∈ lw_tbl := List.mem_append_right _ (List.mem_append_right _ (List.mem_append_right _ (List.mem_append_right _ (List.mem_append_left _ (List.mem_of_getElem? (i := 210) rfl)))))
set_option maxRecDepth 100000 in
theorem tw_671 : Cond.methodLink RL 92 yX9_fits ∈ lw_tbl := List.mem_append_right _ (List.mem_append_right _ (List.mem_append_right _ (List.mem_append_right _ (List.mem_append_left _ (List.mem_of_getElem? (i := 209) rfl)))))
set_option maxRecDepth 100000 in
theorem tw_672 : Cond.code yX8_ask cX8_ask 2 (some .int) ∈ lw_tbl := List.mem_append_right _ (List.mem_append_right _ (List.mem_append_right _ (List.mem_append_left _ (List.mem_of_getElem? (i := 46) rfl))))
set_option maxRecDepth 100000 in
theorem tw_673 : Cond.fieldLink RX8 206 "HassockSee$Wear" "mostLeft" "I" ∈ lw_tbl := List.mem_append_right _ (List.mem_append_left _ (List.mem_of_getElem? (i := 174) rfl))
set_option maxRecDepth 100000 in
theorem tw_674 : Cond.fieldLink RX8 203 "HassockSee$Wear" "bestSunday" "I" ∈ lw_tbl := List.mem_append_right _ (List.mem_append_left _ (List.mem_of_getElem? (i := 172) rfl))
set_option maxRecDepth 100000 in
theorem lt_wsX8_ask_r1 : ∀ w ∈ wsX8_ask_r1, w ∈ lw_tbl := (List.forall_mem_cons.mpr ⟨tw_41, (List.forall_mem_cons.mpr ⟨tw_45, (List.forall_mem_cons.mpr ⟨tw_674, (List.forall_mem_cons.mpr ⟨tw_673, (List.forall_mem_cons.mpr ⟨tw_131, (List.forall_mem_cons.mpr ⟨tw_130, (List.forall_mem_cons.mpr ⟨tw_133, (List.forall_mem_cons.mpr ⟨tw_129, (List.forall_mem_cons.mpr ⟨tw_652, (List.forall_mem_cons.mpr ⟨tw_651, (List.forall_mem_cons.mpr ⟨tw_650, (List.forall_mem_cons.mpr ⟨tw_42, (List.forall_mem_cons.mpr ⟨tw_649, (List.forall_mem_cons.mpr ⟨tw_648, (List.forall_mem_cons.mpr ⟨tw_83, (List.forall_mem_cons.mpr ⟨tw_647, (List.forall_mem_cons.mpr ⟨tw_646, (List.forall_mem_cons.mpr ⟨tw_645, (List.forall_mem_cons.mpr ⟨tw_46, (List.forall_mem_cons.mpr ⟨tw_644, (List.forall_mem_cons.mpr ⟨tw_89, (List.forall_mem_cons.mpr ⟨tw_88, (List.forall_mem_cons.mpr ⟨tw_87, (List.forall_mem_cons.mpr ⟨tw_643, (fun _ h => absurd h List.not_mem_nil)⟩)⟩)⟩)⟩)⟩)⟩)⟩)⟩)⟩)⟩)⟩)⟩)⟩)⟩)⟩)⟩)⟩)⟩)⟩)⟩)⟩)⟩)⟩)⟩)
set_option maxRecDepth 100000 in
theorem tw_675 : Cond.methodLink RX6 44 yX6_woolBehind ∈ lw_tbl := List.mem_append_right _ (List.mem_append_right _ (List.mem_append_right _ (List.mem_append_left _ (List.mem_of_getElem? (i := 55) rfl))))
set_option maxRecDepth 100000 in
theorem tw_676 : Cond.code yX6_mostLeftBy cX6_mostLeftBy 5 (some .int) ∈ lw_tbl := List.mem_append_right _ (List.mem_append_right _ (List.mem_append_right _ (List.mem_append_left _ (List.mem_of_getElem? (i := 54) rfl))))
set_option maxRecDepth 100000 in
theorem tw_677 : Cond.selects RX6 yX6_mostLeftBy yX6_mostLeftBy ∈ lw_tbl := List.mem_append_left _ (List.mem_of_getElem? (i := 17) rfl)
set_option maxRecDepth 100000 in
theorem tw_678 : Cond.instanceMethod yX6_mostLeftBy ∈ lw_tbl := List.mem_append_right _ (List.mem_append_right _ (List.mem_append_right _ (List.mem_append_left _ (List.mem_of_getElem? (i := 53) rfl))))
set_option maxRecDepth 100000 in
theorem tw_679 : Cond.methodLink RX6 40 yX6_mostLeftBy ∈ lw_tbl := List.mem_append_right _ (List.mem_append_right _ (List.mem_append_right _ (List.mem_append_left _ (List.mem_of_getElem? (i := 51) rfl))))
set_option maxRecDepth 100000 in
theorem tw_680 : Cond.fieldLink RX6 37 "HassockSee$Wear" "mostLeft" "I" ∈ lw_tbl := List.mem_append_right _ (List.mem_append_left _ (List.mem_of_getElem? (i := 173) rfl))
set_option maxRecDepth 100000 in
theorem tw_681 : Cond.fieldLink RX6 34 "HassockSee$Wear" "bestSunday" "I" ∈ lw_tbl := List.mem_append_right _ (List.mem_append_left _ (List.mem_of_getElem? (i := 171) rfl))
set_option maxRecDepth 100000 in
theorem tw_682 : Cond.code yX6_chooseSunday cX6_chooseSunday 3 none ∈ lw_tbl := List.mem_append_right _ (List.mem_append_right _ (List.mem_append_right _ (List.mem_append_left _ (List.mem_of_getElem? (i := 50) rfl))))
set_option maxRecDepth 100000 in
theorem tw_683 : Cond.selects RX6 yX6_chooseSunday yX6_chooseSunday ∈ lw_tbl := List.mem_append_right _ (List.mem_append_right _ (List.mem_append_right _ (List.mem_append_left _ (List.mem_of_getElem? (i := 49) rfl))))
set_option maxRecDepth 100000 in
theorem tw_684 : Cond.instanceMethod yX6_chooseSunday ∈ lw_tbl := List.mem_append_right _ (List.mem_append_right _ (List.mem_append_right _ (List.mem_append_left _ (List.mem_of_getElem? (i := 48) rfl))))
set_option maxRecDepth 100000 in
theorem tw_685 : Cond.methodLink RX8 200 yX6_chooseSunday ∈ lw_tbl := List.mem_append_right _ (List.mem_append_right _ (List.mem_append_right _ (List.mem_append_left _ (List.mem_of_getElem? (i := 47) rfl))))
set_option maxRecDepth 100000 in
theorem lt_wsX8_ask_r2 : ∀ w ∈ wsX8_ask_r2, w ∈ lw_tbl := (List.forall_mem_cons.mpr ⟨tw_642, (List.forall_mem_cons.mpr ⟨tw_641, (List.forall_mem_cons.mpr ⟨tw_640, (List.forall_mem_cons.mpr ⟨tw_560, (List.forall_mem_cons.mpr ⟨tw_341, (List.forall_mem_cons.mpr ⟨tw_559, (List.forall_mem_cons.mpr ⟨tw_685, (List.forall_mem_cons.mpr ⟨tw_684, (List.forall_mem_cons.mpr ⟨tw_683, (List.forall_mem_cons.mpr ⟨tw_682, (List.forall_mem_cons.mpr ⟨tw_681, (List.forall_mem_cons.mpr ⟨tw_680, (List.forall_mem_cons.mpr ⟨tw_679, (List.forall_mem_cons.mpr ⟨tw_678, (List.forall_mem_cons.mpr ⟨tw_677, (List.forall_mem_cons.mpr ⟨tw_676, (List.forall_mem_cons.mpr ⟨tw_82, (List.forall_mem_cons.mpr ⟨tw_675, (fun _ h => absurd h List.not_mem_nil)⟩)⟩)⟩)⟩)⟩)⟩)⟩)⟩)⟩)⟩)⟩)⟩)⟩)⟩)⟩)⟩)⟩)⟩)
set_option maxRecDepth 100000 in
theorem lt_wsX8_ask : ∀ w ∈ wsX8_ask, w ∈ lw_tbl := (List.forall_mem_cons.mpr ⟨tw_672, (List.forall_mem_append.mpr ⟨(List.forall_mem_append.mpr ⟨(List.forall_mem_append.mpr ⟨(List.forall_mem_append.mpr ⟨lt_wsX8_ask_r1, lt_wsX8_ask_r2⟩), lt_wsX80⟩), lt_wsX60⟩), lt_wsX40⟩)⟩)
set_option maxRecDepth 100000 in
theorem tw_686 : Cond.selects RX8 yX8_ask yX8_ask ∈ lw_tbl := List.mem_append_right _ (List.mem_append_right _ (List.mem_append_right _ (List.mem_append_left _ (List.mem_of_getElem? (i := 45) rfl))))
set_option maxRecDepth 100000 in
theorem tw_687 : Cond.instanceMethod yX8_ask ∈ lw_tbl := List.mem_append_right _ (List.mem_append_right _ (List.mem_append_right _ (List.mem_append_left _ (List.mem_of_getElem? (i := 44) rfl))))
set_option maxRecDepth 100000 in
theorem tw_688 : Cond.methodLink RL 93 yX8_ask ∈ lw_tbl := List.mem_append_right _ (List.mem_append_right _ (List.mem_append_right _ (List.mem_append_left _ (List.mem_of_getElem? (i := 43) rfl))))
set_option maxRecDepth 100000 in
theorem tw_689 : Cond.code yX9_ask cX9_ask 6 (some .int) ∈ lw_tbl := List.mem_append_right _ (List.mem_append_right _ (List.mem_append_right _ (List.mem_append_right _ (List.mem_append_left _ (List.mem_of_getElem? (i := 223) rfl)))))
set_option maxRecDepth 100000 in
theorem tw_690 : Cond.code yX9_mostLeft cX9_mostLeft 4 (some .int) ∈ lw_tbl := List.mem_append_right _ (List.mem_append_right _ (List.mem_append_right _ (List.mem_append_right _ (List.mem_append_left _ (List.mem_of_getElem? (i := 227) rfl)))))
set_option maxRecDepth 100000 in
theorem tw_691 : Cond.selects RX9 yX9_mostLeft yX9_mostLeft ∈ lw_tbl := List.mem_append_left _ (List.mem_of_getElem? (i := 52) rfl)
set_option maxRecDepth 100000 in
theorem tw_692 : Cond.instanceMethod yX9_mostLeft ∈ lw_tbl := List.mem_append_right _ (List.mem_append_right _ (List.mem_append_right _ (List.mem_append_right _ (List.mem_append_left _ (List.mem_of_getElem? (i := 226) rfl)))))
set_option maxRecDepth 100000 in
theorem tw_693 : Cond.methodLink RX9 250 yX9_mostLeft ∈ lw_tbl := List.mem_append_right _ (List.mem_append_right _ (List.mem_append_right _ (List.mem_append_right _ (List.mem_append_left _ (List.mem_of_getElem? (i := 224) rfl)))))
set_option maxRecDepth 100000 in
theorem lt_wsX9_ask : ∀ w ∈ wsX9_ask, w ∈ lw_tbl := (List.forall_mem_cons.mpr ⟨tw_689, (List.forall_mem_append.mpr ⟨(List.forall_mem_cons.mpr ⟨tw_148, (List.forall_mem_cons.mpr ⟨tw_147, (List.forall_mem_cons.mpr ⟨tw_151, (List.forall_mem_cons.mpr ⟨tw_146, (List.forall_mem_cons.mpr ⟨tw_693, (List.forall_mem_cons.mpr ⟨tw_692, (List.forall_mem_cons.mpr ⟨tw_691, (List.forall_mem_cons.mpr ⟨tw_690, (List.forall_mem_cons.mpr ⟨tw_100, (List.forall_mem_cons.mpr ⟨tw_668, (List.forall_mem_cons.mpr ⟨tw_667, (List.forall_mem_cons.mpr ⟨tw_666, (List.forall_mem_cons.mpr ⟨tw_665, (List.forall_mem_cons.mpr ⟨tw_626, (List.forall_mem_cons.mpr ⟨tw_111, (List.forall_mem_cons.mpr ⟨tw_110, (List.forall_mem_cons.mpr ⟨tw_664, (List.forall_mem_cons.mpr ⟨tw_663, (List.forall_mem_cons.mpr ⟨tw_662, (List.forall_mem_cons.mpr ⟨tw_396, (List.forall_mem_cons.mpr ⟨tw_395, (List.forall_mem_cons.mpr ⟨tw_394, (fun _ h => absurd h List.not_mem_nil)⟩)⟩)⟩)⟩)⟩)⟩)⟩)⟩)⟩)⟩)⟩)⟩)⟩)⟩)⟩)⟩)⟩)⟩)⟩)⟩)⟩)⟩), lt_wsX90⟩)⟩)
set_option maxRecDepth 100000 in
theorem tw_694 : Cond.selects RX9 yX9_ask yX9_ask ∈ lw_tbl := List.mem_append_right _ (List.mem_append_right _ (List.mem_append_right _ (List.mem_append_right _ (List.mem_append_left _ (List.mem_of_getElem? (i := 222) rfl)))))
set_option maxRecDepth 100000 in
theorem tw_695 : Cond.instanceMethod yX9_ask ∈ lw_tbl := List.mem_append_right _ (List.mem_append_right _ (List.mem_append_right _ (List.mem_append_right _ (List.mem_append_left _ (List.mem_of_getElem? (i := 221) rfl)))))
set_option maxRecDepth 100000 in
theorem tw_696 : Cond.methodLink RL 96 yX9_ask ∈ lw_tbl := List.mem_append_right _ (List.mem_append_right _ (List.mem_append_right _ (List.mem_append_right _ (List.mem_append_left _ (List.mem_of_getElem? (i := 220) rfl)))))
set_option maxRecDepth 100000 in
theorem tw_697 : Cond.code yX8_unpick cX8_unpick 4 (some .int) ∈ lw_tbl := List.mem_append_right _ (List.mem_append_right _ (List.mem_append_right _ (List.mem_append_left _ (List.mem_of_getElem? (i := 59) rfl))))
set_option maxRecDepth 100000 in
theorem tw_698 : Cond.code yX5_leastWinningMove cX5_leastWinningMove 2 (some .int) ∈ lw_tbl := List.mem_append_right _ (List.mem_append_right _ (List.mem_append_right _ (List.mem_append_left _ (List.mem_of_getElem? (i := 63) rfl))))
set_option maxRecDepth 100000 in
theorem tw_699 : Cond.selects RX5 yX5_leastWinningMove yX5_leastWinningMove ∈ lw_tbl := List.mem_append_right _ (List.mem_append_right _ (List.mem_append_right _ (List.mem_append_left _ (List.mem_of_getElem? (i := 62) rfl))))
set_option maxRecDepth 100000 in
theorem tw_700 : Cond.instanceMethod yX5_leastWinningMove ∈ lw_tbl := List.mem_append_right _ (List.mem_append_right _ (List.mem_append_right _ (List.mem_append_left _ (List.mem_of_getElem? (i := 61) rfl))))
set_option maxRecDepth 100000 in
theorem tw_701 : Cond.methodLink RX8 209 yX5_leastWinningMove ∈ lw_tbl := List.mem_append_right _ (List.mem_append_right _ (List.mem_append_right _ (List.mem_append_left _ (List.mem_of_getElem? (i := 60) rfl))))
set_option maxRecDepth 100000 in
theorem lt_wsX8_unpick : ∀ w ∈ wsX8_unpick, w ∈ lw_tbl := (List.forall_mem_cons.mpr ⟨tw_697, (List.forall_mem_append.mpr ⟨(List.forall_mem_append.mpr ⟨(List.forall_mem_append.mpr ⟨(List.forall_mem_cons.mpr ⟨tw_18, (List.forall_mem_cons.mpr ⟨tw_1, (List.forall_mem_cons.mpr ⟨tw_436, (List.forall_mem_cons.mpr ⟨tw_169, (List.forall_mem_cons.mpr ⟨tw_168, (List.forall_mem_cons.mpr ⟨tw_167, (List.forall_mem_cons.mpr ⟨tw_19, (List.forall_mem_cons.mpr ⟨tw_166, (List.forall_mem_cons.mpr ⟨tw_31, (List.forall_mem_cons.mpr ⟨tw_134, (List.forall_mem_cons.mpr ⟨tw_133, (List.forall_mem_cons.mpr ⟨tw_132, (List.forall_mem_cons.mpr ⟨tw_165, (List.forall_mem_cons.mpr ⟨tw_164, (List.forall_mem_cons.mpr ⟨tw_131, (List.forall_mem_cons.mpr ⟨tw_130, (List.forall_mem_cons.mpr ⟨tw_129, (List.forall_mem_cons.mpr ⟨tw_701, (List.forall_mem_cons.mpr ⟨tw_700, (List.forall_mem_cons.mpr ⟨tw_699, (List.forall_mem_cons.mpr ⟨tw_2, (List.forall_mem_cons.mpr ⟨tw_698, (List.forall_mem_cons.mpr ⟨tw_52, (fun _ h => absurd h List.not_mem_nil)⟩)⟩)⟩)⟩)⟩)⟩)⟩)⟩)⟩)⟩)⟩)⟩)⟩)⟩)⟩)⟩)⟩)⟩)⟩)⟩)⟩)⟩)⟩), lt_wsX80⟩), lt_wsX10⟩), lt_wsX50⟩)⟩)
set_option maxRecDepth 100000 in
theorem tw_702 : Cond.selects RX8 yX8_unpick yX8_unpick ∈ lw_tbl := List.mem_append_right _ (List.mem_append_right _ (List.mem_append_right _ (List.mem_append_left _ (List.mem_of_getElem? (i := 58) rfl))))
set_option maxRecDepth 100000 in
theorem tw_703 : Cond.instanceMethod yX8_unpick ∈ lw_tbl := List.mem_append_right _ (List.mem_append_right _ (List.mem_append_right _ (List.mem_append_left _ (List.mem_of_getElem? (i := 57) rfl))))
set_option maxRecDepth 100000 in
theorem tw_704 : Cond.methodLink RL 97 yX8_unpick ∈ lw_tbl := List.mem_append_right _ (List.mem_append_right _ (List.mem_append_right _ (List.mem_append_left _ (List.mem_of_getElem? (i := 56) rfl))))
set_option maxRecDepth 100000 in
theorem tw_705 : Cond.code yX9_unpick cX9_unpick 5 (some .int) ∈ lw_tbl := List.mem_append_right _ (List.mem_append_right _ (List.mem_append_right _ (List.mem_append_right _ (List.mem_append_left _ (List.mem_of_getElem? (i := 231) rfl)))))
set_option maxRecDepth 100000 in
theorem tw_706 : Cond.code yX9_leastPick cX9_leastPick 6 (some .int) ∈ lw_tbl := List.mem_append_right _ (List.mem_append_right _ (List.mem_append_right _ (List.mem_append_right _ (List.mem_append_left _ (List.mem_of_getElem? (i := 235) rfl)))))
set_option maxRecDepth 100000 in
theorem tw_707 : Cond.selects RX9 yX9_leastPick yX9_leastPick ∈ lw_tbl := List.mem_append_left _ (List.mem_of_getElem? (i := 53) rfl)
set_option maxRecDepth 100000 in
theorem tw_708 : Cond.instanceMethod yX9_leastPick ∈ lw_tbl := List.mem_append_right _ (List.mem_append_right _ (List.mem_append_right _ (List.mem_append_right _ (List.mem_append_left _ (List.mem_of_getElem? (i := 234) rfl)))))
set_option maxRecDepth 100000 in
theorem tw_709 : Cond.methodLink RX9 253 yX9_leastPick ∈ lw_tbl := List.mem_append_right _ (List.mem_append_right _ (List.mem_append_right _ (List.mem_append_right _ (List.mem_append_left _ (List.mem_of_getElem? (i := 232) rfl)))))
set_option maxRecDepth 100000 in
theorem lt_wsX9_unpick : ∀ w ∈ wsX9_unpick, w ∈ lw_tbl := (List.forall_mem_cons.mpr ⟨tw_705, (List.forall_mem_append.mpr ⟨(List.forall_mem_cons.mpr ⟨tw_96, (List.forall_mem_cons.mpr ⟨tw_113, (List.forall_mem_cons.mpr ⟨tw_99, (List.forall_mem_cons.mpr ⟨tw_153, (List.forall_mem_cons.mpr ⟨tw_152, (List.forall_mem_cons.mpr ⟨tw_151, (List.forall_mem_cons.mpr ⟨tw_150, (List.forall_mem_cons.mpr ⟨tw_149, (List.forall_mem_cons.mpr ⟨tw_148, (List.forall_mem_cons.mpr ⟨tw_147, (List.forall_mem_cons.mpr ⟨tw_146, (List.forall_mem_cons.mpr ⟨tw_176, (List.forall_mem_cons.mpr ⟨tw_175, (List.forall_mem_cons.mpr ⟨tw_174, (List.forall_mem_cons.mpr ⟨tw_709, (List.forall_mem_cons.mpr ⟨tw_708, (List.forall_mem_cons.mpr ⟨tw_707, (List.forall_mem_cons.mpr ⟨tw_706, (fun _ h => absurd h List.not_mem_nil)⟩)⟩)⟩)⟩)⟩)⟩)⟩)⟩)⟩)⟩)⟩)⟩)⟩)⟩)⟩)⟩)⟩)⟩), lt_wsX90⟩)⟩)
set_option maxRecDepth 100000 in
theorem tw_710 : Cond.selects RX9 yX9_unpick yX9_unpick ∈ lw_tbl := List.mem_append_right _ (List.mem_append_right _ (List.mem_append_right _ (List.mem_append_right _ (List.mem_append_left _ (List.mem_of_getElem? (i := 230) rfl)))))
set_option maxRecDepth 100000 in
theorem tw_711 : Cond.instanceMethod yX9_unpick ∈ lw_tbl := List.mem_append_right _ (List.mem_append_right _ (List.mem_append_right _ (List.mem_append_right _ (List.mem_append_left _ (List.mem_of_getElem? (i := 229) rfl)))))
set_option maxRecDepth 100000 in
theorem tw_712 : Cond.methodLink RL 100 yX9_unpick ∈ lw_tbl := List.mem_append_right _ (List.mem_append_right _ (List.mem_append_right _ (List.mem_append_right _ (List.mem_append_left _ (List.mem_of_getElem? (i := 228) rfl)))))
set_option maxRecDepth 100000 in
theorem tw_713 : Cond.code yX8_moths cX8_moths 10 (some .long) ∈ lw_tbl := List.mem_append_right _ (List.mem_append_right _ (List.mem_append_right _ (List.mem_append_left _ (List.mem_of_getElem? (i := 67) rfl))))
set_option maxRecDepth 100000 in
theorem tw_714 : Cond.code Lib.MathLoose.max_long.x Lib.MathLoose.max_long.code 4 (some .long) ∈ lw_tbl := List.mem_append_right _ (List.mem_append_right _ (List.mem_append_right _ (List.mem_append_left _ (List.mem_of_getElem? (i := 81) rfl))))
set_option maxRecDepth 100000 in
theorem tw_715 : Cond.static Lib.MathLoose.max_long.x ∈ lw_tbl := List.mem_append_right _ (List.mem_append_right _ (List.mem_append_right _ (List.mem_append_left _ (List.mem_of_getElem? (i := 80) rfl))))
set_option maxRecDepth 100000 in
theorem tw_716 : Cond.methodLink RX8 258 Lib.MathLoose.max_long.x ∈ lw_tbl := List.mem_append_right _ (List.mem_append_right _ (List.mem_append_right _ (List.mem_append_left _ (List.mem_of_getElem? (i := 79) rfl))))
set_option maxRecDepth 100000 in
theorem tw_717 : Cond.code yX8_commonDivisor cX8_commonDivisor 11 (some .long) ∈ lw_tbl := List.mem_append_right _ (List.mem_append_right _ (List.mem_append_right _ (List.mem_append_left _ (List.mem_of_getElem? (i := 78) rfl))))
set_option maxRecDepth 100000 in
theorem tw_718 : Cond.static yX8_commonDivisor ∈ lw_tbl := List.mem_append_right _ (List.mem_append_right _ (List.mem_append_right _ (List.mem_append_left _ (List.mem_of_getElem? (i := 77) rfl))))
set_option maxRecDepth 100000 in
theorem tw_719 : Cond.methodLink RX8 254 yX8_commonDivisor ∈ lw_tbl := List.mem_append_right _ (List.mem_append_right _ (List.mem_append_right _ (List.mem_append_left _ (List.mem_of_getElem? (i := 76) rfl))))
set_option maxRecDepth 100000 in
theorem tw_720 : Cond.code yX8_partInLowestTerms cX8_partInLowestTerms 7 (some .long) ∈ lw_tbl := List.mem_append_right _ (List.mem_append_right _ (List.mem_append_right _ (List.mem_append_left _ (List.mem_of_getElem? (i := 75) rfl))))
set_option maxRecDepth 100000 in
theorem tw_721 : Cond.static yX8_partInLowestTerms ∈ lw_tbl := List.mem_append_right _ (List.mem_append_right _ (List.mem_append_right _ (List.mem_append_left _ (List.mem_of_getElem? (i := 74) rfl))))
set_option maxRecDepth 100000 in
theorem tw_722 : Cond.methodLink RX8 220 yX8_partInLowestTerms ∈ lw_tbl := List.mem_append_right _ (List.mem_append_right _ (List.mem_append_right _ (List.mem_append_left _ (List.mem_of_getElem? (i := 73) rfl))))
set_option maxRecDepth 100000 in
theorem tw_723 : Cond.code yX8_power cX8_power 6 (some .long) ∈ lw_tbl := List.mem_append_right _ (List.mem_append_right _ (List.mem_append_right _ (List.mem_append_left _ (List.mem_of_getElem? (i := 72) rfl))))
set_option maxRecDepth 100000 in
theorem tw_724 : Cond.static yX8_power ∈ lw_tbl := List.mem_append_right _ (List.mem_append_right _ (List.mem_append_right _ (List.mem_append_left _ (List.mem_of_getElem? (i := 71) rfl))))
set_option maxRecDepth 100000 in
theorem tw_725 : Cond.methodLink RX8 216 yX8_power ∈ lw_tbl := List.mem_append_right _ (List.mem_append_right _ (List.mem_append_right _ (List.mem_append_left _ (List.mem_of_getElem? (i := 70) rfl))))
set_option maxRecDepth 100000 in
theorem tw_726 : Cond.constantLong RX8 214 (10) ∈ lw_tbl := List.mem_append_right _ (List.mem_append_right _ (List.mem_append_right _ (List.mem_append_left _ (List.mem_of_getElem? (i := 69) rfl))))
set_option maxRecDepth 100000 in
theorem tw_727 : Cond.constantLong RX8 212 (-1000000000000000002) ∈ lw_tbl := List.mem_append_right _ (List.mem_append_right _ (List.mem_append_right _ (List.mem_append_left _ (List.mem_of_getElem? (i := 68) rfl))))
set_option maxRecDepth 100000 in
theorem lt_wsX8_moths : ∀ w ∈ wsX8_moths, w ∈ lw_tbl := (List.forall_mem_cons.mpr ⟨tw_713, (List.forall_mem_cons.mpr ⟨tw_727, (List.forall_mem_cons.mpr ⟨tw_726, (List.forall_mem_cons.mpr ⟨tw_131, (List.forall_mem_cons.mpr ⟨tw_130, (List.forall_mem_cons.mpr ⟨tw_133, (List.forall_mem_cons.mpr ⟨tw_129, (List.forall_mem_cons.mpr ⟨tw_725, (List.forall_mem_cons.mpr ⟨tw_724, (List.forall_mem_cons.mpr ⟨tw_723, (List.forall_mem_cons.mpr ⟨tw_722, (List.forall_mem_cons.mpr ⟨tw_721, (List.forall_mem_cons.mpr ⟨tw_720, (List.forall_mem_cons.mpr ⟨tw_719, (List.forall_mem_cons.mpr ⟨tw_718, (List.forall_mem_cons.mpr ⟨tw_717, (List.forall_mem_cons.mpr ⟨tw_716, (List.forall_mem_cons.mpr ⟨tw_715, (List.forall_mem_cons.mpr ⟨tw_341, (List.forall_mem_cons.mpr ⟨tw_714, (fun _ h => absurd h List.not_mem_nil)⟩)⟩)⟩)⟩)⟩)⟩)⟩)⟩)⟩)⟩)⟩)⟩)⟩)⟩)⟩)⟩)⟩)⟩)⟩)⟩)
set_option maxRecDepth 100000 in
theorem tw_728 : Cond.selects RX8 yX8_moths yX8_moths ∈ lw_tbl := List.mem_append_right _ (List.mem_append_right _ (List.mem_append_right _ (List.mem_append_left _ (List.mem_of_getElem? (i := 66) rfl))))
set_option maxRecDepth 100000 in
theorem tw_729 : Cond.instanceMethod yX8_moths ∈ lw_tbl := List.mem_append_right _ (List.mem_append_right _ (List.mem_append_right _ (List.mem_append_left _ (List.mem_of_getElem? (i := 65) rfl))))
set_option maxRecDepth 100000 in
theorem tw_730 : Cond.methodLink RL 101 yX8_moths ∈ lw_tbl := List.mem_append_right _ (List.mem_append_right _ (List.mem_append_right _ (List.mem_append_left _ (List.mem_of_getElem? (i := 64) rfl))))
set_option maxRecDepth 100000 in
theorem tw_731 : Cond.code yX9_moths cX9_moths 10 (some .long) ∈ lw_tbl := List.mem_append_right _ (List.mem_append_right _ (List.mem_append_right _ (List.mem_append_right _ (List.mem_append_left _ (List.mem_of_getElem? (i := 239) rfl)))))
set_option maxRecDepth 100000 in
theorem tw_732 : Cond.code yX9_lowest cX9_lowest 11 (some .long) ∈ lw_tbl := List.mem_append_right _ (List.mem_append_right _ (List.mem_append_right _ (List.mem_append_right _ (List.mem_append_right _ (List.mem_of_getElem? (i := 8) rfl)))))
set_option maxRecDepth 100000 in
theorem tw_733 : Cond.static yX9_lowest ∈ lw_tbl := List.mem_append_right _ (List.mem_append_right _ (List.mem_append_right _ (List.mem_append_right _ (List.mem_append_right _ (List.mem_of_getElem? (i := 7) rfl)))))
set_option maxRecDepth 100000 in
theorem tw_734 : Cond.methodLink RX9 266 yX9_lowest ∈ lw_tbl := List.mem_append_right _ (List.mem_append_right _ (List.mem_append_right _ (List.mem_append_right _ (List.mem_append_right _ (List.mem_of_getElem? (i := 6) rfl)))))
set_option maxRecDepth 100000 in
theorem tw_735 : Cond.code yX9_power cX9_power 6 (some .long) ∈ lw_tbl := List.mem_append_right _ (List.mem_append_right _ (List.mem_append_right _ (List.mem_append_right _ (List.mem_append_right _ (List.mem_of_getElem? (i := 5) rfl)))))
set_option maxRecDepth 100000 in
theorem tw_736 : Cond.static yX9_power ∈ lw_tbl := List.mem_append_right _ (List.mem_append_right _ (List.mem_append_right _ (List.mem_append_right _ (List.mem_append_right _ (List.mem_of_getElem? (i := 4) rfl)))))
set_option maxRecDepth 100000 in
theorem tw_737 : Cond.methodLink RX9 262 yX9_power ∈ lw_tbl := List.mem_append_right _ (List.mem_append_right _ (List.mem_append_right _ (List.mem_append_right _ (List.mem_append_right _ (List.mem_of_getElem? (i := 3) rfl)))))
set_option maxRecDepth 100000 in
theorem tw_738 : Cond.constantLong RX9 260 (-1000000000000000002) ∈ lw_tbl := List.mem_append_right _ (List.mem_append_right _ (List.mem_append_right _ (List.mem_append_right _ (List.mem_append_right _ (List.mem_of_getElem? (i := 2) rfl)))))
set_option maxRecDepth 100000 in
theorem tw_739 : Cond.constantLong RX9 258 (10) ∈ lw_tbl := List.mem_append_right _ (List.mem_append_right _ (List.mem_append_right _ (List.mem_append_right _ (List.mem_append_right _ (List.mem_of_getElem? (i := 1) rfl)))))
set_option maxRecDepth 100000 in
theorem tw_740 : Cond.constantLong RX9 256 (16) ∈ lw_tbl := List.mem_append_right _ (List.mem_append_right _ (List.mem_append_right _ (List.mem_append_right _ (List.mem_append_right _ (List.mem_of_getElem? (i := 0) rfl)))))
set_option maxRecDepth 100000 in
theorem lt_wsX9_moths : ∀ w ∈ wsX9_moths, w ∈ lw_tbl := (List.forall_mem_cons.mpr ⟨tw_731, (List.forall_mem_cons.mpr ⟨tw_740, (List.forall_mem_cons.mpr ⟨tw_739, (List.forall_mem_cons.mpr ⟨tw_738, (List.forall_mem_cons.mpr ⟨tw_148, (List.forall_mem_cons.mpr ⟨tw_147, (List.forall_mem_cons.mpr ⟨tw_151, (List.forall_mem_cons.mpr ⟨tw_146, (List.forall_mem_cons.mpr ⟨tw_737, (List.forall_mem_cons.mpr ⟨tw_736, (List.forall_mem_cons.mpr ⟨tw_735, (List.forall_mem_cons.mpr ⟨tw_734, (List.forall_mem_cons.mpr ⟨tw_733, (List.forall_mem_cons.mpr ⟨tw_732, (fun _ h => absurd h List.not_mem_nil)⟩)⟩)⟩)⟩)⟩)⟩)⟩)⟩)⟩)⟩)⟩)⟩)⟩)⟩)
set_option maxRecDepth 100000 in
theorem tw_741 : Cond.selects RX9 yX9_moths yX9_moths ∈ lw_tbl := List.mem_append_right _ (List.mem_append_right _ (List.mem_append_right _ (List.mem_append_right _ (List.mem_append_left _ (List.mem_of_getElem? (i := 238) rfl)))))
set_option maxRecDepth 100000 in
theorem tw_742 : Cond.instanceMethod yX9_moths ∈ lw_tbl := List.mem_append_right _ (List.mem_append_right _ (List.mem_append_right _ (List.mem_append_right _ (List.mem_append_left _ (List.mem_of_getElem? (i := 237) rfl)))))
set_option maxRecDepth 100000 in
theorem tw_743 : Cond.methodLink RL 105 yX9_moths ∈ lw_tbl := List.mem_append_right _ (List.mem_append_right _ (List.mem_append_right _ (List.mem_append_right _ (List.mem_append_left _ (List.mem_of_getElem? (i := 236) rfl)))))
set_option maxRecDepth 100000 in
theorem tw_744 : Cond.code yX8_book cX8_book 4 (some .int) ∈ lw_tbl := List.mem_append_right _ (List.mem_append_right _ (List.mem_append_right _ (List.mem_append_left _ (List.mem_of_getElem? (i := 85) rfl))))
set_option maxRecDepth 100000 in
theorem tw_745 : Cond.methodLink RX8 247 yX8_drawAct ∈ lw_tbl := List.mem_append_right _ (List.mem_append_right _ (List.mem_append_right _ (List.mem_append_left _ (List.mem_of_getElem? (i := 91) rfl))))
set_option maxRecDepth 100000 in
theorem tw_746 : Cond.constant RX8 246 (65537) ∈ lw_tbl := List.mem_append_right _ (List.mem_append_right _ (List.mem_append_right _ (List.mem_append_left _ (List.mem_of_getElem? (i := 90) rfl))))
set_option maxRecDepth 100000 in
theorem tw_747 : Cond.code yX8_drawYears cX8_drawYears 5 none ∈ lw_tbl := List.mem_append_right _ (List.mem_append_right _ (List.mem_append_right _ (List.mem_append_left _ (List.mem_of_getElem? (i := 89) rfl))))
set_option maxRecDepth 100000 in
theorem tw_748 : Cond.selects RX8 yX8_drawYears yX8_drawYears ∈ lw_tbl := List.mem_append_left _ (List.mem_of_getElem? (i := 18) rfl)
set_option maxRecDepth 100000 in
theorem tw_749 : Cond.instanceMethod yX8_drawYears ∈ lw_tbl := List.mem_append_right _ (List.mem_append_right _ (List.mem_append_right _ (List.mem_append_left _ (List.mem_of_getElem? (i := 88) rfl))))
set_option maxRecDepth 100000 in
theorem tw_750 : Cond.methodLink RX8 224 yX8_drawYears ∈ lw_tbl := List.mem_append_right _ (List.mem_append_right _ (List.mem_append_right _ (List.mem_append_left _ (List.mem_of_getElem? (i := 86) rfl))))
set_option maxRecDepth 100000 in
theorem lt_wsX8_book_r1 : ∀ w ∈ wsX8_book_r1, w ∈ lw_tbl := (List.forall_mem_cons.mpr ⟨tw_17, (List.forall_mem_cons.mpr ⟨tw_181, (List.forall_mem_cons.mpr ⟨tw_131, (List.forall_mem_cons.mpr ⟨tw_130, (List.forall_mem_cons.mpr ⟨tw_133, (List.forall_mem_cons.mpr ⟨tw_129, (List.forall_mem_cons.mpr ⟨tw_750, (List.forall_mem_cons.mpr ⟨tw_749, (List.forall_mem_cons.mpr ⟨tw_748, (List.forall_mem_cons.mpr ⟨tw_747, (List.forall_mem_cons.mpr ⟨tw_18, (List.forall_mem_cons.mpr ⟨tw_746, (List.forall_mem_cons.mpr ⟨tw_303, (List.forall_mem_cons.mpr ⟨tw_302, (List.forall_mem_cons.mpr ⟨tw_301, (List.forall_mem_cons.mpr ⟨tw_19, (List.forall_mem_cons.mpr ⟨tw_300, (List.forall_mem_cons.mpr ⟨tw_31, (List.forall_mem_cons.mpr ⟨tw_30, (List.forall_mem_cons.mpr ⟨tw_29, (List.forall_mem_cons.mpr ⟨tw_27, (List.forall_mem_cons.mpr ⟨tw_26, (List.forall_mem_cons.mpr ⟨tw_25, (List.forall_mem_cons.mpr ⟨tw_745, (fun _ h => absurd h List.not_mem_nil)⟩)⟩)⟩)⟩)⟩)⟩)⟩)⟩)⟩)⟩)⟩)⟩)⟩)⟩)⟩)⟩)⟩)⟩)⟩)⟩)⟩)⟩)⟩)⟩)
set_option maxRecDepth 100000 in
theorem tw_751 : Cond.methodLink RX8 250 yX1_attempt ∈ lw_tbl := List.mem_append_right _ (List.mem_append_right _ (List.mem_append_right _ (List.mem_append_left _ (List.mem_of_getElem? (i := 95) rfl))))
set_option maxRecDepth 100000 in
theorem tw_752 : Cond.code yX8_drawAct cX8_drawAct 4 none ∈ lw_tbl := List.mem_append_right _ (List.mem_append_right _ (List.mem_append_right _ (List.mem_append_left _ (List.mem_of_getElem? (i := 94) rfl))))
set_option maxRecDepth 100000 in
theorem tw_753 : Cond.selects RX8 yX8_drawAct yX8_drawAct ∈ lw_tbl := List.mem_append_left _ (List.mem_of_getElem? (i := 19) rfl)
set_option maxRecDepth 100000 in
theorem tw_754 : Cond.instanceMethod yX8_drawAct ∈ lw_tbl := List.mem_append_right _ (List.mem_append_right _ (List.mem_append_right _ (List.mem_append_left _ (List.mem_of_getElem? (i := 93) rfl))))
set_option maxRecDepth 100000 in
theorem lt_wsX8_book_r2 : ∀ w ∈ wsX8_book_r2, w ∈ lw_tbl := (List.forall_mem_cons.mpr ⟨tw_754, (List.forall_mem_cons.mpr ⟨tw_753, (List.forall_mem_cons.mpr ⟨tw_752, (List.forall_mem_cons.mpr ⟨tw_751, (List.forall_mem_cons.mpr ⟨tw_331, (List.forall_mem_cons.mpr ⟨tw_330, (List.forall_mem_cons.mpr ⟨tw_329, (List.forall_mem_cons.mpr ⟨tw_328, (List.forall_mem_cons.mpr ⟨tw_327, (List.forall_mem_cons.mpr ⟨tw_326, (List.forall_mem_cons.mpr ⟨tw_325, (List.forall_mem_cons.mpr ⟨tw_324, (List.forall_mem_cons.mpr ⟨tw_168, (List.forall_mem_cons.mpr ⟨tw_167, (List.forall_mem_cons.mpr ⟨tw_166, (List.forall_mem_cons.mpr ⟨tw_134, (List.forall_mem_cons.mpr ⟨tw_132, (List.forall_mem_cons.mpr ⟨tw_165, (List.forall_mem_cons.mpr ⟨tw_164, (List.forall_mem_cons.mpr ⟨tw_323, (List.forall_mem_cons.mpr ⟨tw_123, (List.forall_mem_cons.mpr ⟨tw_122, (List.forall_mem_cons.mpr ⟨tw_121, (List.forall_mem_cons.mpr ⟨tw_120, (fun _ h => absurd h List.not_mem_nil)⟩)⟩)⟩)⟩)⟩)⟩)⟩)⟩)⟩)⟩)⟩)⟩)⟩)⟩)⟩)⟩)⟩)⟩)⟩)⟩)⟩)⟩)⟩)⟩)
set_option maxRecDepth 100000 in
theorem lt_wsX8_book_r3 : ∀ w ∈ wsX8_book_r3, w ∈ lw_tbl := (List.forall_mem_cons.mpr ⟨tw_119, (List.forall_mem_cons.mpr ⟨tw_118, (List.forall_mem_cons.mpr ⟨tw_117, (List.forall_mem_cons.mpr ⟨tw_138, (List.forall_mem_cons.mpr ⟨tw_137, (List.forall_mem_cons.mpr ⟨tw_136, (List.forall_mem_cons.mpr ⟨tw_347, (List.forall_mem_cons.mpr ⟨tw_346, (List.forall_mem_cons.mpr ⟨tw_345, (List.forall_mem_cons.mpr ⟨tw_344, (List.forall_mem_cons.mpr ⟨tw_343, (List.forall_mem_cons.mpr ⟨tw_342, (List.forall_mem_cons.mpr ⟨tw_341, (List.forall_mem_cons.mpr ⟨tw_340, (List.forall_mem_cons.mpr ⟨tw_339, (List.forall_mem_cons.mpr ⟨tw_338, (List.forall_mem_cons.mpr ⟨tw_337, (List.forall_mem_cons.mpr ⟨tw_336, (List.forall_mem_cons.mpr ⟨tw_335, (List.forall_mem_cons.mpr ⟨tw_162, (List.forall_mem_cons.mpr ⟨tw_161, (List.forall_mem_cons.mpr ⟨tw_160, (List.forall_mem_cons.mpr ⟨tw_334, (List.forall_mem_cons.mpr ⟨tw_193, (fun _ h => absurd h List.not_mem_nil)⟩)⟩)⟩)⟩)⟩)⟩)⟩)⟩)⟩)⟩)⟩)⟩)⟩)⟩)⟩)⟩)⟩)⟩)⟩)⟩)⟩)⟩)⟩)⟩)
set_option maxRecDepth 100000 in
theorem lt_wsX8_book_r4 : ∀ w ∈ wsX8_book_r4, w ∈ lw_tbl := (List.forall_mem_cons.mpr ⟨tw_192, (List.forall_mem_cons.mpr ⟨tw_191, (List.forall_mem_cons.mpr ⟨tw_360, (List.forall_mem_cons.mpr ⟨tw_359, (List.forall_mem_cons.mpr ⟨tw_358, (List.forall_mem_cons.mpr ⟨tw_357, (List.forall_mem_cons.mpr ⟨tw_356, (List.forall_mem_cons.mpr ⟨tw_355, (List.forall_mem_cons.mpr ⟨tw_354, (List.forall_mem_cons.mpr ⟨tw_124, (List.forall_mem_cons.mpr ⟨tw_495, (List.forall_mem_cons.mpr ⟨tw_494, (List.forall_mem_cons.mpr ⟨tw_493, (List.forall_mem_cons.mpr ⟨tw_492, (List.forall_mem_cons.mpr ⟨tw_491, (List.forall_mem_cons.mpr ⟨tw_490, (List.forall_mem_cons.mpr ⟨tw_489, (List.forall_mem_cons.mpr ⟨tw_488, (fun _ h => absurd h List.not_mem_nil)⟩)⟩)⟩)⟩)⟩)⟩)⟩)⟩)⟩)⟩)⟩)⟩)⟩)⟩)⟩)⟩)⟩)⟩)
set_option maxRecDepth 100000 in
theorem lt_wsX8_book : ∀ w ∈ wsX8_book, w ∈ lw_tbl := (List.forall_mem_cons.mpr ⟨tw_744, (List.forall_mem_append.mpr ⟨(List.forall_mem_append.mpr ⟨(List.forall_mem_append.mpr ⟨lt_wsX8_book_r1, (List.forall_mem_append.mpr ⟨lt_wsX8_book_r2, (List.forall_mem_append.mpr ⟨lt_wsX8_book_r3, lt_wsX8_book_r4⟩)⟩)⟩), lt_wsX80⟩), lt_wsX10⟩)⟩)
set_option maxRecDepth 100000 in
theorem tw_755 : Cond.selects RX8 yX8_book yX8_book ∈ lw_tbl := List.mem_append_right _ (List.mem_append_right _ (List.mem_append_right _ (List.mem_append_left _ (List.mem_of_getElem? (i := 84) rfl))))
set_option maxRecDepth 100000 in
theorem tw_756 : Cond.instanceMethod yX8_book ∈ lw_tbl := List.mem_append_right _ (List.mem_append_right _ (List.mem_append_right _ (List.mem_append_left _ (List.mem_of_getElem? (i := 83) rfl))))
set_option maxRecDepth 100000 in
theorem tw_757 : Cond.methodLink RL 106 yX8_book ∈ lw_tbl := List.mem_append_right _ (List.mem_append_right _ (List.mem_append_right _ (List.mem_append_left _ (List.mem_of_getElem? (i := 82) rfl))))
set_option maxRecDepth 100000 in
theorem tw_758 : Cond.code yX9_book cX9_book 9 (some .int) ∈ lw_tbl := List.mem_append_right _ (List.mem_append_right _ (List.mem_append_right _ (List.mem_append_right _ (List.mem_append_right _ (List.mem_of_getElem? (i := 12) rfl)))))
set_option maxRecDepth 100000 in
theorem tw_759 : Cond.code yX9_actBy cX9_actBy 1 (some .int) ∈ lw_tbl := List.mem_append_right _ (List.mem_append_right _ (List.mem_append_right _ (List.mem_append_right _ (List.mem_append_right _ (List.mem_of_getElem? (i := 18) rfl)))))
set_option maxRecDepth 100000 in
theorem tw_760 : Cond.static yX9_actBy ∈ lw_tbl := List.mem_append_right _ (List.mem_append_right _ (List.mem_append_right _ (List.mem_append_right _ (List.mem_append_right _ (List.mem_of_getElem? (i := 17) rfl)))))
set_option maxRecDepth 100000 in
theorem tw_761 : Cond.methodLink RX9 276 yX9_actBy ∈ lw_tbl := List.mem_append_right _ (List.mem_append_right _ (List.mem_append_right _ (List.mem_append_right _ (List.mem_append_right _ (List.mem_of_getElem? (i := 16) rfl)))))
set_option maxRecDepth 100000 in
theorem tw_762 : Cond.constantLong RX9 274 (65537) ∈ lw_tbl := List.mem_append_right _ (List.mem_append_right _ (List.mem_append_right _ (List.mem_append_right _ (List.mem_append_right _ (List.mem_of_getElem? (i := 15) rfl)))))
set_option maxRecDepth 100000 in
theorem tw_763 : Cond.constantLong RX9 272 (75) ∈ lw_tbl := List.mem_append_right _ (List.mem_append_right _ (List.mem_append_right _ (List.mem_append_right _ (List.mem_append_right _ (List.mem_of_getElem? (i := 14) rfl)))))
set_option maxRecDepth 100000 in
theorem tw_764 : Cond.constantLong RX9 270 (9999) ∈ lw_tbl := List.mem_append_right _ (List.mem_append_right _ (List.mem_append_right _ (List.mem_append_right _ (List.mem_append_right _ (List.mem_of_getElem? (i := 13) rfl)))))
set_option maxRecDepth 100000 in
theorem lt_wsX9_book_r1 : ∀ w ∈ wsX9_book_r1, w ∈ lw_tbl := (List.forall_mem_cons.mpr ⟨tw_764, (List.forall_mem_cons.mpr ⟨tw_155, (List.forall_mem_cons.mpr ⟨tw_378, (List.forall_mem_cons.mpr ⟨tw_763, (List.forall_mem_cons.mpr ⟨tw_264, (List.forall_mem_cons.mpr ⟨tw_762, (List.forall_mem_cons.mpr ⟨tw_96, (List.forall_mem_cons.mpr ⟨tw_95, (List.forall_mem_cons.mpr ⟨tw_148, (List.forall_mem_cons.mpr ⟨tw_147, (List.forall_mem_cons.mpr ⟨tw_151, (List.forall_mem_cons.mpr ⟨tw_146, (List.forall_mem_cons.mpr ⟨tw_370, (List.forall_mem_cons.mpr ⟨tw_369, (List.forall_mem_cons.mpr ⟨tw_368, (List.forall_mem_cons.mpr ⟨tw_367, (List.forall_mem_cons.mpr ⟨tw_105, (List.forall_mem_cons.mpr ⟨tw_114, (List.forall_mem_cons.mpr ⟨tw_113, (List.forall_mem_cons.mpr ⟨tw_112, (List.forall_mem_cons.mpr ⟨tw_366, (List.forall_mem_cons.mpr ⟨tw_761, (List.forall_mem_cons.mpr ⟨tw_760, (List.forall_mem_cons.mpr ⟨tw_759, (fun _ h => absurd h List.not_mem_nil)⟩)⟩)⟩)⟩)⟩)⟩)⟩)⟩)⟩)⟩)⟩)⟩)⟩)⟩)⟩)⟩)⟩)⟩)⟩)⟩)⟩)⟩)⟩)⟩)
set_option maxRecDepth 100000 in
theorem tw_765 : Cond.code yX9_muchBy cX9_muchBy 2 (some .int) ∈ lw_tbl := List.mem_append_right _ (List.mem_append_right _ (List.mem_append_right _ (List.mem_append_right _ (List.mem_append_right _ (List.mem_of_getElem? (i := 21) rfl)))))
set_option maxRecDepth 100000 in
theorem tw_766 : Cond.static yX9_muchBy ∈ lw_tbl := List.mem_append_right _ (List.mem_append_right _ (List.mem_append_right _ (List.mem_append_right _ (List.mem_append_right _ (List.mem_of_getElem? (i := 20) rfl)))))
set_option maxRecDepth 100000 in
theorem tw_767 : Cond.methodLink RX9 279 yX9_muchBy ∈ lw_tbl := List.mem_append_right _ (List.mem_append_right _ (List.mem_append_right _ (List.mem_append_right _ (List.mem_append_right _ (List.mem_of_getElem? (i := 19) rfl)))))
set_option maxRecDepth 100000 in
theorem lt_wsX9_book_r2 : ∀ w ∈ wsX9_book_r2, w ∈ lw_tbl := (List.forall_mem_cons.mpr ⟨tw_767, (List.forall_mem_cons.mpr ⟨tw_766, (List.forall_mem_cons.mpr ⟨tw_765, (List.forall_mem_cons.mpr ⟨tw_383, (List.forall_mem_cons.mpr ⟨tw_382, (List.forall_mem_cons.mpr ⟨tw_381, (List.forall_mem_cons.mpr ⟨tw_380, (List.forall_mem_cons.mpr ⟨tw_176, (List.forall_mem_cons.mpr ⟨tw_175, (List.forall_mem_cons.mpr ⟨tw_174, (List.forall_mem_cons.mpr ⟨tw_408, (List.forall_mem_cons.mpr ⟨tw_407, (List.forall_mem_cons.mpr ⟨tw_406, (List.forall_mem_cons.mpr ⟨tw_405, (List.forall_mem_cons.mpr ⟨tw_404, (List.forall_mem_cons.mpr ⟨tw_403, (List.forall_mem_cons.mpr ⟨tw_402, (List.forall_mem_cons.mpr ⟨tw_401, (List.forall_mem_cons.mpr ⟨tw_375, (List.forall_mem_cons.mpr ⟨tw_400, (List.forall_mem_cons.mpr ⟨tw_399, (List.forall_mem_cons.mpr ⟨tw_398, (List.forall_mem_cons.mpr ⟨tw_397, (List.forall_mem_cons.mpr ⟨tw_396, (fun _ h => absurd h List.not_mem_nil)⟩)⟩)⟩)⟩)⟩)⟩)⟩)⟩)⟩)⟩)⟩)⟩)⟩)⟩)⟩)⟩)⟩)⟩)⟩)⟩)⟩)⟩)⟩)⟩)
set_option maxRecDepth 100000 in
theorem lt_wsX9_book_r3 : ∀ w ∈ wsX9_book_r3, w ∈ lw_tbl := (List.forall_mem_cons.mpr ⟨tw_395, (List.forall_mem_cons.mpr ⟨tw_394, (List.forall_mem_cons.mpr ⟨tw_393, (List.forall_mem_cons.mpr ⟨tw_392, (List.forall_mem_cons.mpr ⟨tw_391, (List.forall_mem_cons.mpr ⟨tw_390, (List.forall_mem_cons.mpr ⟨tw_203, (List.forall_mem_cons.mpr ⟨tw_202, (List.forall_mem_cons.mpr ⟨tw_201, (List.forall_mem_cons.mpr ⟨tw_200, (List.forall_mem_cons.mpr ⟨tw_431, (List.forall_mem_cons.mpr ⟨tw_430, (List.forall_mem_cons.mpr ⟨tw_429, (List.forall_mem_cons.mpr ⟨tw_428, (List.forall_mem_cons.mpr ⟨tw_427, (List.forall_mem_cons.mpr ⟨tw_426, (List.forall_mem_cons.mpr ⟨tw_425, (List.forall_mem_cons.mpr ⟨tw_424, (List.forall_mem_cons.mpr ⟨tw_423, (List.forall_mem_cons.mpr ⟨tw_422, (List.forall_mem_cons.mpr ⟨tw_421, (List.forall_mem_cons.mpr ⟨tw_420, (List.forall_mem_cons.mpr ⟨tw_419, (List.forall_mem_cons.mpr ⟨tw_418, (fun _ h => absurd h List.not_mem_nil)⟩)⟩)⟩)⟩)⟩)⟩)⟩)⟩)⟩)⟩)⟩)⟩)⟩)⟩)⟩)⟩)⟩)⟩)⟩)⟩)⟩)⟩)⟩)⟩)
set_option maxRecDepth 100000 in
theorem tw_768 : Cond.methodLink RX9 282 yX9_borders ∈ lw_tbl := List.mem_append_right _ (List.mem_append_right _ (List.mem_append_right _ (List.mem_append_right _ (List.mem_append_right _ (List.mem_of_getElem? (i := 22) rfl)))))
set_option maxRecDepth 100000 in
theorem lt_wsX9_book_r4 : ∀ w ∈ wsX9_book_r4, w ∈ lw_tbl := (List.forall_mem_cons.mpr ⟨tw_417, (List.forall_mem_cons.mpr ⟨tw_416, (List.forall_mem_cons.mpr ⟨tw_145, (List.forall_mem_cons.mpr ⟨tw_144, (List.forall_mem_cons.mpr ⟨tw_143, (List.forall_mem_cons.mpr ⟨tw_768, (List.forall_mem_cons.mpr ⟨tw_505, (List.forall_mem_cons.mpr ⟨tw_504, (List.forall_mem_cons.mpr ⟨tw_499, (List.forall_mem_cons.mpr ⟨tw_503, (List.forall_mem_cons.mpr ⟨tw_502, (List.forall_mem_cons.mpr ⟨tw_501, (List.forall_mem_cons.mpr ⟨tw_500, (List.forall_mem_cons.mpr ⟨tw_415, (List.forall_mem_cons.mpr ⟨tw_414, (List.forall_mem_cons.mpr ⟨tw_413, (List.forall_mem_cons.mpr ⟨tw_412, (fun _ h => absurd h List.not_mem_nil)⟩)⟩)⟩)⟩)⟩)⟩)⟩)⟩)⟩)⟩)⟩)⟩)⟩)⟩)⟩)⟩)⟩)
set_option maxRecDepth 100000 in
theorem lt_wsX9_book : ∀ w ∈ wsX9_book, w ∈ lw_tbl := (List.forall_mem_cons.mpr ⟨tw_758, (List.forall_mem_append.mpr ⟨(List.forall_mem_append.mpr ⟨lt_wsX9_book_r1, (List.forall_mem_append.mpr ⟨lt_wsX9_book_r2, (List.forall_mem_append.mpr ⟨lt_wsX9_book_r3, lt_wsX9_book_r4⟩)⟩)⟩), lt_wsX90⟩)⟩)
set_option maxRecDepth 100000 in
theorem tw_769 : Cond.selects RX9 yX9_book yX9_book ∈ lw_tbl := List.mem_append_right _ (List.mem_append_right _ (List.mem_append_right _ (List.mem_append_right _ (List.mem_append_right _ (List.mem_of_getElem? (i := 11) rfl)))))
set_option maxRecDepth 100000 in
theorem tw_770 : Cond.instanceMethod yX9_book ∈ lw_tbl := List.mem_append_right _ (List.mem_append_right _ (List.mem_append_right _ (List.mem_append_right _ (List.mem_append_right _ (List.mem_of_getElem? (i := 10) rfl)))))
set_option maxRecDepth 100000 in
theorem tw_771 : Cond.methodLink RL 109 yX9_book ∈ lw_tbl := List.mem_append_right _ (List.mem_append_right _ (List.mem_append_right _ (List.mem_append_right _ (List.mem_append_right _ (List.mem_of_getElem? (i := 9) rfl)))))
set_option maxRecDepth 100000 in
theorem tw_772 : Cond.code yX8_image cX8_image 2 (some .int) ∈ lw_tbl := List.mem_append_right _ (List.mem_append_right _ (List.mem_append_right _ (List.mem_append_left _ (List.mem_of_getElem? (i := 99) rfl))))
set_option maxRecDepth 100000 in
theorem tw_773 : Cond.methodLink RX2 27 yX1_copyFrom ∈ lw_tbl := List.mem_append_right _ (List.mem_append_right _ (List.mem_append_right _ (List.mem_append_left _ (List.mem_of_getElem? (i := 108) rfl))))
set_option maxRecDepth 100000 in
theorem tw_774 : Cond.code yX2_keep cX2_keep 3 none ∈ lw_tbl := List.mem_append_right _ (List.mem_append_right _ (List.mem_append_right _ (List.mem_append_left _ (List.mem_of_getElem? (i := 107) rfl))))
set_option maxRecDepth 100000 in
theorem tw_775 : Cond.selects RX2 yX2_keep yX2_keep ∈ lw_tbl := List.mem_append_right _ (List.mem_append_right _ (List.mem_append_right _ (List.mem_append_left _ (List.mem_of_getElem? (i := 106) rfl))))
set_option maxRecDepth 100000 in
theorem tw_776 : Cond.instanceMethod yX2_keep ∈ lw_tbl := List.mem_append_right _ (List.mem_append_right _ (List.mem_append_right _ (List.mem_append_left _ (List.mem_of_getElem? (i := 105) rfl))))
set_option maxRecDepth 100000 in
theorem tw_777 : Cond.methodLink RX8 231 yX2_keep ∈ lw_tbl := List.mem_append_right _ (List.mem_append_right _ (List.mem_append_right _ (List.mem_append_left _ (List.mem_of_getElem? (i := 104) rfl))))
set_option maxRecDepth 100000 in
theorem tw_778 : Cond.code yX8_imageOf cX8_imageOf 2 (some (.object "HassockSee$Image")) ∈ lw_tbl := List.mem_append_right _ (List.mem_append_right _ (List.mem_append_right _ (List.mem_append_left _ (List.mem_of_getElem? (i := 103) rfl))))
set_option maxRecDepth 100000 in
theorem tw_779 : Cond.selects RX8 yX8_imageOf yX8_imageOf ∈ lw_tbl := List.mem_append_left _ (List.mem_of_getElem? (i := 20) rfl)
set_option maxRecDepth 100000 in
theorem tw_780 : Cond.instanceMethod yX8_imageOf ∈ lw_tbl := List.mem_append_right _ (List.mem_append_right _ (List.mem_append_right _ (List.mem_append_left _ (List.mem_of_getElem? (i := 102) rfl))))
set_option maxRecDepth 100000 in
theorem tw_781 : Cond.methodLink RX8 227 yX8_imageOf ∈ lw_tbl := List.mem_append_right _ (List.mem_append_right _ (List.mem_append_right _ (List.mem_append_left _ (List.mem_of_getElem? (i := 100) rfl))))
set_option maxRecDepth 100000 in
theorem lt_wsX8_image_r1 : ∀ w ∈ wsX8_image_r1, w ∈ lw_tbl := (List.forall_mem_cons.mpr ⟨tw_18, (List.forall_mem_cons.mpr ⟨tw_45, (List.forall_mem_cons.mpr ⟨tw_131, (List.forall_mem_cons.mpr ⟨tw_130, (List.forall_mem_cons.mpr ⟨tw_133, (List.forall_mem_cons.mpr ⟨tw_129, (List.forall_mem_cons.mpr ⟨tw_781, (List.forall_mem_cons.mpr ⟨tw_780, (List.forall_mem_cons.mpr ⟨tw_779, (List.forall_mem_cons.mpr ⟨tw_778, (List.forall_mem_cons.mpr ⟨tw_37, (List.forall_mem_cons.mpr ⟨tw_36, (List.forall_mem_cons.mpr ⟨tw_777, (List.forall_mem_cons.mpr ⟨tw_776, (List.forall_mem_cons.mpr ⟨tw_775, (List.forall_mem_cons.mpr ⟨tw_38, (List.forall_mem_cons.mpr ⟨tw_774, (List.forall_mem_cons.mpr ⟨tw_76, (List.forall_mem_cons.mpr ⟨tw_74, (List.forall_mem_cons.mpr ⟨tw_78, (List.forall_mem_cons.mpr ⟨tw_773, (List.forall_mem_cons.mpr ⟨tw_302, (List.forall_mem_cons.mpr ⟨tw_301, (List.forall_mem_cons.mpr ⟨tw_19, (fun _ h => absurd h List.not_mem_nil)⟩)⟩)⟩)⟩)⟩)⟩)⟩)⟩)⟩)⟩)⟩)⟩)⟩)⟩)⟩)⟩)⟩)⟩)⟩)⟩)⟩)⟩)⟩)⟩)
set_option maxRecDepth 100000 in
theorem tw_782 : Cond.code yX4_copyFrom cX4_copyFrom 3 none ∈ lw_tbl := List.mem_append_right _ (List.mem_append_right _ (List.mem_append_right _ (List.mem_append_left _ (List.mem_of_getElem? (i := 112) rfl))))
set_option maxRecDepth 100000 in
theorem tw_783 : Cond.selects RX4 yX4_copyFrom yX4_copyFrom ∈ lw_tbl := List.mem_append_right _ (List.mem_append_right _ (List.mem_append_right _ (List.mem_append_left _ (List.mem_of_getElem? (i := 111) rfl))))
set_option maxRecDepth 100000 in
theorem tw_784 : Cond.instanceMethod yX4_copyFrom ∈ lw_tbl := List.mem_append_right _ (List.mem_append_right _ (List.mem_append_right _ (List.mem_append_left _ (List.mem_of_getElem? (i := 110) rfl))))
set_option maxRecDepth 100000 in
theorem tw_785 : Cond.methodLink RX2 31 yX4_copyFrom ∈ lw_tbl := List.mem_append_right _ (List.mem_append_right _ (List.mem_append_right _ (List.mem_append_left _ (List.mem_of_getElem? (i := 109) rfl))))
set_option maxRecDepth 100000 in
theorem lt_wsX8_image_r2 : ∀ w ∈ wsX8_image_r2, w ∈ lw_tbl := (List.forall_mem_cons.mpr ⟨tw_300, (List.forall_mem_cons.mpr ⟨tw_31, (List.forall_mem_cons.mpr ⟨tw_30, (List.forall_mem_cons.mpr ⟨tw_29, (List.forall_mem_cons.mpr ⟨tw_27, (List.forall_mem_cons.mpr ⟨tw_26, (List.forall_mem_cons.mpr ⟨tw_25, (List.forall_mem_cons.mpr ⟨tw_785, (List.forall_mem_cons.mpr ⟨tw_784, (List.forall_mem_cons.mpr ⟨tw_783, (List.forall_mem_cons.mpr ⟨tw_46, (List.forall_mem_cons.mpr ⟨tw_782, (List.forall_mem_cons.mpr ⟨tw_89, (List.forall_mem_cons.mpr ⟨tw_88, (List.forall_mem_cons.mpr ⟨tw_87, (fun _ h => absurd h List.not_mem_nil)⟩)⟩)⟩)⟩)⟩)⟩)⟩)⟩)⟩)⟩)⟩)⟩)⟩)⟩)⟩)
set_option maxRecDepth 100000 in
theorem lt_wsX8_image : ∀ w ∈ wsX8_image, w ∈ lw_tbl := (List.forall_mem_cons.mpr ⟨tw_772, (List.forall_mem_append.mpr ⟨(List.forall_mem_append.mpr ⟨(List.forall_mem_append.mpr ⟨(List.forall_mem_append.mpr ⟨(List.forall_mem_append.mpr ⟨lt_wsX8_image_r1, lt_wsX8_image_r2⟩), lt_wsX80⟩), lt_wsX20⟩), lt_wsX10⟩), lt_wsX40⟩)⟩)
set_option maxRecDepth 100000 in
theorem tw_786 : Cond.selects RX8 yX8_image yX8_image ∈ lw_tbl := List.mem_append_right _ (List.mem_append_right _ (List.mem_append_right _ (List.mem_append_left _ (List.mem_of_getElem? (i := 98) rfl))))
set_option maxRecDepth 100000 in
theorem tw_787 : Cond.instanceMethod yX8_image ∈ lw_tbl := List.mem_append_right _ (List.mem_append_right _ (List.mem_append_right _ (List.mem_append_left _ (List.mem_of_getElem? (i := 97) rfl))))
set_option maxRecDepth 100000 in
theorem tw_788 : Cond.methodLink RL 110 yX8_image ∈ lw_tbl := List.mem_append_right _ (List.mem_append_right _ (List.mem_append_right _ (List.mem_append_left _ (List.mem_of_getElem? (i := 96) rfl))))
set_option maxRecDepth 100000 in
theorem tw_789 : Cond.code yX9_image cX9_image 2 (some .int) ∈ lw_tbl := List.mem_append_right _ (List.mem_append_right _ (List.mem_append_right _ (List.mem_append_right _ (List.mem_append_right _ (List.mem_of_getElem? (i := 26) rfl)))))
set_option maxRecDepth 100000 in
theorem tw_790 : Cond.code yX9_pass cX9_pass 3 (some .int) ∈ lw_tbl := List.mem_append_right _ (List.mem_append_right _ (List.mem_append_right _ (List.mem_append_right _ (List.mem_append_right _ (List.mem_of_getElem? (i := 34) rfl)))))
set_option maxRecDepth 100000 in
theorem tw_791 : Cond.selects RX9 yX9_pass yX9_pass ∈ lw_tbl := List.mem_append_left _ (List.mem_of_getElem? (i := 55) rfl)
set_option maxRecDepth 100000 in
theorem tw_792 : Cond.instanceMethod yX9_pass ∈ lw_tbl := List.mem_append_right _ (List.mem_append_right _ (List.mem_append_right _ (List.mem_append_right _ (List.mem_append_right _ (List.mem_of_getElem? (i := 33) rfl)))))
set_option maxRecDepth 100000 in
theorem tw_793 : Cond.methodLink RX9 292 yX9_pass ∈ lw_tbl := List.mem_append_right _ (List.mem_append_right _ (List.mem_append_right _ (List.mem_append_right _ (List.mem_append_right _ (List.mem_of_getElem? (i := 31) rfl)))))
set_option maxRecDepth 100000 in
theorem tw_794 : Cond.code yX9_passAll cX9_passAll 1 none ∈ lw_tbl := List.mem_append_right _ (List.mem_append_right _ (List.mem_append_right _ (List.mem_append_right _ (List.mem_append_right _ (List.mem_of_getElem? (i := 30) rfl)))))
set_option maxRecDepth 100000 in
theorem tw_795 : Cond.selects RX9 yX9_passAll yX9_passAll ∈ lw_tbl := List.mem_append_left _ (List.mem_of_getElem? (i := 54) rfl)
set_option maxRecDepth 100000 in
theorem tw_796 : Cond.instanceMethod yX9_passAll ∈ lw_tbl := List.mem_append_right _ (List.mem_append_right _ (List.mem_append_right _ (List.mem_append_right _ (List.mem_append_right _ (List.mem_of_getElem? (i := 29) rfl)))))
set_option maxRecDepth 100000 in
theorem tw_797 : Cond.methodLink RX9 299 yX9_passAll ∈ lw_tbl := List.mem_append_right _ (List.mem_append_right _ (List.mem_append_right _ (List.mem_append_right _ (List.mem_append_right _ (List.mem_of_getElem? (i := 27) rfl)))))
set_option maxRecDepth 100000 in
theorem tw_798 : Cond.fieldLink RX9 285 "HassockSeeModel" "isWriting" "Z" ∈ lw_tbl := List.mem_append_right _ (List.mem_append_right _ (List.mem_append_right _ (List.mem_append_left _ (List.mem_of_getElem? (i := 164) rfl))))
set_option maxRecDepth 100000 in
theorem tw_799 : Cond.fieldLink RX9 289 "HassockSeeModel" "keptAt" "I" ∈ lw_tbl := List.mem_append_right _ (List.mem_append_right _ (List.mem_append_right _ (List.mem_append_left _ (List.mem_of_getElem? (i := 163) rfl))))
set_option maxRecDepth 100000 in
theorem lt_wsX9_image_r1 : ∀ w ∈ wsX9_image_r1, w ∈ lw_tbl := (List.forall_mem_cons.mpr ⟨tw_799, (List.forall_mem_cons.mpr ⟨tw_798, (List.forall_mem_cons.mpr ⟨tw_97, (List.forall_mem_cons.mpr ⟨tw_148, (List.forall_mem_cons.mpr ⟨tw_147, (List.forall_mem_cons.mpr ⟨tw_151, (List.forall_mem_cons.mpr ⟨tw_146, (List.forall_mem_cons.mpr ⟨tw_797, (List.forall_mem_cons.mpr ⟨tw_796, (List.forall_mem_cons.mpr ⟨tw_795, (List.forall_mem_cons.mpr ⟨tw_794, (List.forall_mem_cons.mpr ⟨tw_96, (List.forall_mem_cons.mpr ⟨tw_95, (List.forall_mem_cons.mpr ⟨tw_366, (List.forall_mem_cons.mpr ⟨tw_626, (List.forall_mem_cons.mpr ⟨tw_114, (List.forall_mem_cons.mpr ⟨tw_113, (List.forall_mem_cons.mpr ⟨tw_112, (List.forall_mem_cons.mpr ⟨tw_111, (List.forall_mem_cons.mpr ⟨tw_110, (List.forall_mem_cons.mpr ⟨tw_793, (List.forall_mem_cons.mpr ⟨tw_792, (List.forall_mem_cons.mpr ⟨tw_791, (List.forall_mem_cons.mpr ⟨tw_790, (fun _ h => absurd h List.not_mem_nil)⟩)⟩)⟩)⟩)⟩)⟩)⟩)⟩)⟩)⟩)⟩)⟩)⟩)⟩)⟩)⟩)⟩)⟩)⟩)⟩)⟩)⟩)⟩)⟩)
set_option maxRecDepth 100000 in
theorem tw_800 : Cond.code yX9_passRow cX9_passRow 4 none ∈ lw_tbl := List.mem_append_right _ (List.mem_append_right _ (List.mem_append_right _ (List.mem_append_right _ (List.mem_append_right _ (List.mem_of_getElem? (i := 38) rfl)))))
set_option maxRecDepth 100000 in
theorem tw_801 : Cond.selects RX9 yX9_passRow yX9_passRow ∈ lw_tbl := List.mem_append_left _ (List.mem_of_getElem? (i := 56) rfl)
set_option maxRecDepth 100000 in
theorem tw_802 : Cond.instanceMethod yX9_passRow ∈ lw_tbl := List.mem_append_right _ (List.mem_append_right _ (List.mem_append_right _ (List.mem_append_right _ (List.mem_append_right _ (List.mem_of_getElem? (i := 37) rfl)))))
set_option maxRecDepth 100000 in
theorem tw_803 : Cond.methodLink RX9 295 yX9_passRow ∈ lw_tbl := List.mem_append_right _ (List.mem_append_right _ (List.mem_append_right _ (List.mem_append_right _ (List.mem_append_right _ (List.mem_of_getElem? (i := 35) rfl)))))
set_option maxRecDepth 100000 in
theorem lt_wsX9_image_r2 : ∀ w ∈ wsX9_image_r2, w ∈ lw_tbl := (List.forall_mem_cons.mpr ⟨tw_98, (List.forall_mem_cons.mpr ⟨tw_803, (List.forall_mem_cons.mpr ⟨tw_802, (List.forall_mem_cons.mpr ⟨tw_801, (List.forall_mem_cons.mpr ⟨tw_800, (fun _ h => absurd h List.not_mem_nil)⟩)⟩)⟩)⟩)⟩)
set_option maxRecDepth 100000 in
theorem lt_wsX9_image : ∀ w ∈ wsX9_image, w ∈ lw_tbl := (List.forall_mem_cons.mpr ⟨tw_789, (List.forall_mem_append.mpr ⟨(List.forall_mem_append.mpr ⟨lt_wsX9_image_r1, lt_wsX9_image_r2⟩), lt_wsX90⟩)⟩)
set_option maxRecDepth 100000 in
theorem tw_804 : Cond.selects RX9 yX9_image yX9_image ∈ lw_tbl := List.mem_append_right _ (List.mem_append_right _ (List.mem_append_right _ (List.mem_append_right _ (List.mem_append_right _ (List.mem_of_getElem? (i := 25) rfl)))))
set_option maxRecDepth 100000 in
theorem tw_805 : Cond.instanceMethod yX9_image ∈ lw_tbl := List.mem_append_right _ (List.mem_append_right _ (List.mem_append_right _ (List.mem_append_right _ (List.mem_append_right _ (List.mem_of_getElem? (i := 24) rfl)))))
set_option maxRecDepth 100000 in
theorem tw_806 : Cond.methodLink RL 113 yX9_image ∈ lw_tbl := List.mem_append_right _ (List.mem_append_right _ (List.mem_append_right _ (List.mem_append_right _ (List.mem_append_right _ (List.mem_of_getElem? (i := 23) rfl)))))
set_option maxRecDepth 100000 in
theorem tw_807 : Cond.code yX8_restore cX8_restore 2 (some .int) ∈ lw_tbl := List.mem_append_right _ (List.mem_append_right _ (List.mem_append_right _ (List.mem_append_left _ (List.mem_of_getElem? (i := 116) rfl))))
set_option maxRecDepth 100000 in
theorem tw_808 : Cond.code yX2_bringBack cX2_bringBack 3 (some .boolean) ∈ lw_tbl := List.mem_append_right _ (List.mem_append_right _ (List.mem_append_right _ (List.mem_append_left _ (List.mem_of_getElem? (i := 120) rfl))))
set_option maxRecDepth 100000 in
theorem tw_809 : Cond.selects RX2 yX2_bringBack yX2_bringBack ∈ lw_tbl := List.mem_append_right _ (List.mem_append_right _ (List.mem_append_right _ (List.mem_append_left _ (List.mem_of_getElem? (i := 119) rfl))))
set_option maxRecDepth 100000 in
theorem tw_810 : Cond.instanceMethod yX2_bringBack ∈ lw_tbl := List.mem_append_right _ (List.mem_append_right _ (List.mem_append_right _ (List.mem_append_left _ (List.mem_of_getElem? (i := 118) rfl))))
set_option maxRecDepth 100000 in
theorem tw_811 : Cond.methodLink RX8 235 yX2_bringBack ∈ lw_tbl := List.mem_append_right _ (List.mem_append_right _ (List.mem_append_right _ (List.mem_append_left _ (List.mem_of_getElem? (i := 117) rfl))))
set_option maxRecDepth 100000 in
theorem lt_wsX8_restore_r1 : ∀ w ∈ wsX8_restore_r1, w ∈ lw_tbl := (List.forall_mem_cons.mpr ⟨tw_18, (List.forall_mem_cons.mpr ⟨tw_45, (List.forall_mem_cons.mpr ⟨tw_131, (List.forall_mem_cons.mpr ⟨tw_130, (List.forall_mem_cons.mpr ⟨tw_133, (List.forall_mem_cons.mpr ⟨tw_129, (List.forall_mem_cons.mpr ⟨tw_781, (List.forall_mem_cons.mpr ⟨tw_780, (List.forall_mem_cons.mpr ⟨tw_779, (List.forall_mem_cons.mpr ⟨tw_778, (List.forall_mem_cons.mpr ⟨tw_37, (List.forall_mem_cons.mpr ⟨tw_36, (List.forall_mem_cons.mpr ⟨tw_811, (List.forall_mem_cons.mpr ⟨tw_810, (List.forall_mem_cons.mpr ⟨tw_809, (List.forall_mem_cons.mpr ⟨tw_38, (List.forall_mem_cons.mpr ⟨tw_808, (List.forall_mem_cons.mpr ⟨tw_78, (List.forall_mem_cons.mpr ⟨tw_76, (List.forall_mem_cons.mpr ⟨tw_74, (List.forall_mem_cons.mpr ⟨tw_773, (List.forall_mem_cons.mpr ⟨tw_302, (List.forall_mem_cons.mpr ⟨tw_301, (List.forall_mem_cons.mpr ⟨tw_19, (fun _ h => absurd h List.not_mem_nil)⟩)⟩)⟩)⟩)⟩)⟩)⟩)⟩)⟩)⟩)⟩)⟩)⟩)⟩)⟩)⟩)⟩)⟩)⟩)⟩)⟩)⟩)⟩)⟩)
set_option maxRecDepth 100000 in
theorem lt_wsX8_restore_r2 : ∀ w ∈ wsX8_restore_r2, w ∈ lw_tbl := (List.forall_mem_cons.mpr ⟨tw_300, (List.forall_mem_cons.mpr ⟨tw_31, (List.forall_mem_cons.mpr ⟨tw_30, (List.forall_mem_cons.mpr ⟨tw_29, (List.forall_mem_cons.mpr ⟨tw_27, (List.forall_mem_cons.mpr ⟨tw_26, (List.forall_mem_cons.mpr ⟨tw_25, (List.forall_mem_cons.mpr ⟨tw_785, (List.forall_mem_cons.mpr ⟨tw_784, (List.forall_mem_cons.mpr ⟨tw_783, (List.forall_mem_cons.mpr ⟨tw_46, (List.forall_mem_cons.mpr ⟨tw_782, (List.forall_mem_cons.mpr ⟨tw_89, (List.forall_mem_cons.mpr ⟨tw_88, (List.forall_mem_cons.mpr ⟨tw_87, (fun _ h => absurd h List.not_mem_nil)⟩)⟩)⟩)⟩)⟩)⟩)⟩)⟩)⟩)⟩)⟩)⟩)⟩)⟩)⟩)
set_option maxRecDepth 100000 in
theorem lt_wsX8_restore : ∀ w ∈ wsX8_restore, w ∈ lw_tbl := (List.forall_mem_cons.mpr ⟨tw_807, (List.forall_mem_append.mpr ⟨(List.forall_mem_append.mpr ⟨(List.forall_mem_append.mpr ⟨(List.forall_mem_append.mpr ⟨(List.forall_mem_append.mpr ⟨lt_wsX8_restore_r1, lt_wsX8_restore_r2⟩), lt_wsX80⟩), lt_wsX20⟩), lt_wsX10⟩), lt_wsX40⟩)⟩)
set_option maxRecDepth 100000 in
theorem tw_812 : Cond.selects RX8 yX8_restore yX8_restore ∈ lw_tbl := List.mem_append_right _ (List.mem_append_right _ (List.mem_append_right _ (List.mem_append_left _ (List.mem_of_getElem? (i := 115) rfl))))
set_option maxRecDepth 100000 in
theorem tw_813 : Cond.instanceMethod yX8_restore ∈ lw_tbl := List.mem_append_right _ (List.mem_append_right _ (List.mem_append_right _ (List.mem_append_left _ (List.mem_of_getElem? (i := 114) rfl))))
set_option maxRecDepth 100000 in
theorem tw_814 : Cond.methodLink RL 114 yX8_restore ∈ lw_tbl := List.mem_append_right _ (List.mem_append_right _ (List.mem_append_right _ (List.mem_append_left _ (List.mem_of_getElem? (i := 113) rfl))))
set_option maxRecDepth 100000 in
theorem tw_815 : Cond.code yX9_restore cX9_restore 2 (some .int) ∈ lw_tbl := List.mem_append_right _ (List.mem_append_right _ (List.mem_append_right _ (List.mem_append_right _ (List.mem_append_right _ (List.mem_of_getElem? (i := 42) rfl)))))
set_option maxRecDepth 100000 in
theorem lt_wsX9_restore_r1 : ∀ w ∈ wsX9_restore_r1, w ∈ lw_tbl := (List.forall_mem_cons.mpr ⟨tw_97, (List.forall_mem_cons.mpr ⟨tw_799, (List.forall_mem_cons.mpr ⟨tw_798, (List.forall_mem_cons.mpr ⟨tw_148, (List.forall_mem_cons.mpr ⟨tw_147, (List.forall_mem_cons.mpr ⟨tw_151, (List.forall_mem_cons.mpr ⟨tw_146, (List.forall_mem_cons.mpr ⟨tw_797, (List.forall_mem_cons.mpr ⟨tw_796, (List.forall_mem_cons.mpr ⟨tw_795, (List.forall_mem_cons.mpr ⟨tw_794, (List.forall_mem_cons.mpr ⟨tw_96, (List.forall_mem_cons.mpr ⟨tw_95, (List.forall_mem_cons.mpr ⟨tw_366, (List.forall_mem_cons.mpr ⟨tw_626, (List.forall_mem_cons.mpr ⟨tw_114, (List.forall_mem_cons.mpr ⟨tw_113, (List.forall_mem_cons.mpr ⟨tw_112, (List.forall_mem_cons.mpr ⟨tw_111, (List.forall_mem_cons.mpr ⟨tw_110, (List.forall_mem_cons.mpr ⟨tw_793, (List.forall_mem_cons.mpr ⟨tw_792, (List.forall_mem_cons.mpr ⟨tw_791, (List.forall_mem_cons.mpr ⟨tw_790, (fun _ h => absurd h List.not_mem_nil)⟩)⟩)⟩)⟩)⟩)⟩)⟩)⟩)⟩)⟩)⟩)⟩)⟩)⟩)⟩)⟩)⟩)⟩)⟩)⟩)⟩)⟩)⟩)⟩)
set_option maxRecDepth 100000 in
theorem lt_wsX9_restore_r2 : ∀ w ∈ wsX9_restore_r2, w ∈ lw_tbl := (List.forall_mem_cons.mpr ⟨tw_98, (List.forall_mem_cons.mpr ⟨tw_803, (List.forall_mem_cons.mpr ⟨tw_802, (List.forall_mem_cons.mpr ⟨tw_801, (List.forall_mem_cons.mpr ⟨tw_800, (fun _ h => absurd h List.not_mem_nil)⟩)⟩)⟩)⟩)⟩)
set_option maxRecDepth 100000 in
theorem lt_wsX9_restore : ∀ w ∈ wsX9_restore, w ∈ lw_tbl := (List.forall_mem_cons.mpr ⟨tw_815, (List.forall_mem_append.mpr ⟨(List.forall_mem_append.mpr ⟨lt_wsX9_restore_r1, lt_wsX9_restore_r2⟩), lt_wsX90⟩)⟩)
set_option maxRecDepth 100000 in
theorem tw_816 : Cond.selects RX9 yX9_restore yX9_restore ∈ lw_tbl := List.mem_append_right _ (List.mem_append_right _ (List.mem_append_right _ (List.mem_append_right _ (List.mem_append_right _ (List.mem_of_getElem? (i := 41) rfl)))))
set_option maxRecDepth 100000 in
theorem tw_817 : Cond.instanceMethod yX9_restore ∈ lw_tbl := List.mem_append_right _ (List.mem_append_right _ (List.mem_append_right _ (List.mem_append_right _ (List.mem_append_right _ (List.mem_of_getElem? (i := 40) rfl)))))
set_option maxRecDepth 100000 in
theorem tw_818 : Cond.methodLink RL 117 yX9_restore ∈ lw_tbl := List.mem_append_right _ (List.mem_append_right _ (List.mem_append_right _ (List.mem_append_right _ (List.mem_append_right _ (List.mem_of_getElem? (i := 39) rfl)))))
set_option maxRecDepth 100000 in
theorem tw_819 : Cond.code yX8_told cX8_told 2 (some .int) ∈ lw_tbl := List.mem_append_right _ (List.mem_append_right _ (List.mem_append_right _ (List.mem_append_left _ (List.mem_of_getElem? (i := 124) rfl))))
set_option maxRecDepth 100000 in
theorem tw_820 : Cond.code yX8_toldOfHassock cX8_toldOfHassock 3 (some .int) ∈ lw_tbl := List.mem_append_right _ (List.mem_append_right _ (List.mem_append_right _ (List.mem_append_left _ (List.mem_of_getElem? (i := 128) rfl))))
set_option maxRecDepth 100000 in
theorem tw_821 : Cond.selects RX8 yX8_toldOfHassock yX8_toldOfHassock ∈ lw_tbl := List.mem_append_left _ (List.mem_of_getElem? (i := 21) rfl)
set_option maxRecDepth 100000 in
theorem tw_822 : Cond.instanceMethod yX8_toldOfHassock ∈ lw_tbl := List.mem_append_right _ (List.mem_append_right _ (List.mem_append_right _ (List.mem_append_left _ (List.mem_of_getElem? (i := 127) rfl))))
set_option maxRecDepth 100000 in
theorem tw_823 : Cond.methodLink RX8 239 yX8_toldOfHassock ∈ lw_tbl := List.mem_append_right _ (List.mem_append_right _ (List.mem_append_right _ (List.mem_append_left _ (List.mem_of_getElem? (i := 125) rfl))))
set_option maxRecDepth 100000 in
theorem lt_wsX8_told_r1 : ∀ w ∈ wsX8_told_r1, w ∈ lw_tbl := (List.forall_mem_cons.mpr ⟨tw_13, (List.forall_mem_cons.mpr ⟨tw_212, (List.forall_mem_cons.mpr ⟨tw_18, (List.forall_mem_cons.mpr ⟨tw_452, (List.forall_mem_cons.mpr ⟨tw_181, (List.forall_mem_cons.mpr ⟨tw_451, (List.forall_mem_cons.mpr ⟨tw_45, (List.forall_mem_cons.mpr ⟨tw_621, (List.forall_mem_cons.mpr ⟨tw_823, (List.forall_mem_cons.mpr ⟨tw_822, (List.forall_mem_cons.mpr ⟨tw_821, (List.forall_mem_cons.mpr ⟨tw_133, (List.forall_mem_cons.mpr ⟨tw_820, (List.forall_mem_cons.mpr ⟨tw_195, (List.forall_mem_cons.mpr ⟨tw_437, (List.forall_mem_cons.mpr ⟨tw_436, (List.forall_mem_cons.mpr ⟨tw_131, (List.forall_mem_cons.mpr ⟨tw_130, (List.forall_mem_cons.mpr ⟨tw_129, (List.forall_mem_cons.mpr ⟨tw_169, (List.forall_mem_cons.mpr ⟨tw_168, (List.forall_mem_cons.mpr ⟨tw_167, (List.forall_mem_cons.mpr ⟨tw_19, (List.forall_mem_cons.mpr ⟨tw_166, (fun _ h => absurd h List.not_mem_nil)⟩)⟩)⟩)⟩)⟩)⟩)⟩)⟩)⟩)⟩)⟩)⟩)⟩)⟩)⟩)⟩)⟩)⟩)⟩)⟩)⟩)⟩)⟩)⟩)
set_option maxRecDepth 100000 in
theorem lt_wsX8_told_r2 : ∀ w ∈ wsX8_told_r2, w ∈ lw_tbl := (List.forall_mem_cons.mpr ⟨tw_31, (List.forall_mem_cons.mpr ⟨tw_134, (List.forall_mem_cons.mpr ⟨tw_132, (List.forall_mem_cons.mpr ⟨tw_165, (List.forall_mem_cons.mpr ⟨tw_164, (fun _ h => absurd h List.not_mem_nil)⟩)⟩)⟩)⟩)⟩)
set_option maxRecDepth 100000 in
theorem lt_wsX8_told : ∀ w ∈ wsX8_told, w ∈ lw_tbl := (List.forall_mem_cons.mpr ⟨tw_819, (List.forall_mem_append.mpr ⟨(List.forall_mem_append.mpr ⟨(List.forall_mem_append.mpr ⟨(List.forall_mem_append.mpr ⟨(List.forall_mem_append.mpr ⟨lt_wsX8_told_r1, lt_wsX8_told_r2⟩), lt_wsX80⟩), lt_wsX30⟩), lt_wsX10⟩), lt_wsX40⟩)⟩)
set_option maxRecDepth 100000 in
theorem tw_824 : Cond.selects RX8 yX8_told yX8_told ∈ lw_tbl := List.mem_append_right _ (List.mem_append_right _ (List.mem_append_right _ (List.mem_append_left _ (List.mem_of_getElem? (i := 123) rfl))))
set_option maxRecDepth 100000 in
theorem tw_825 : Cond.instanceMethod yX8_told ∈ lw_tbl := List.mem_append_right _ (List.mem_append_right _ (List.mem_append_right _ (List.mem_append_left _ (List.mem_of_getElem? (i := 122) rfl))))
set_option maxRecDepth 100000 in
theorem tw_826 : Cond.methodLink RL 118 yX8_told ∈ lw_tbl := List.mem_append_right _ (List.mem_append_right _ (List.mem_append_right _ (List.mem_append_left _ (List.mem_of_getElem? (i := 121) rfl))))
set_option maxRecDepth 100000 in
theorem tw_827 : Cond.code yX9_told cX9_told 2 (some .int) ∈ lw_tbl := List.mem_append_right _ (List.mem_append_right _ (List.mem_append_right _ (List.mem_append_right _ (List.mem_append_right _ (List.mem_of_getElem? (i := 46) rfl)))))
set_option maxRecDepth 100000 in
theorem tw_828 : Cond.code yX9_ofThere cX9_ofThere 3 (some .int) ∈ lw_tbl := List.mem_append_right _ (List.mem_append_right _ (List.mem_append_right _ (List.mem_append_right _ (List.mem_append_right _ (List.mem_of_getElem? (i := 53) rfl)))))
set_option maxRecDepth 100000 in
theorem tw_829 : Cond.selects RX9 yX9_ofThere yX9_ofThere ∈ lw_tbl := List.mem_append_left _ (List.mem_of_getElem? (i := 57) rfl)
set_option maxRecDepth 100000 in
theorem tw_830 : Cond.instanceMethod yX9_ofThere ∈ lw_tbl := List.mem_append_right _ (List.mem_append_right _ (List.mem_append_right _ (List.mem_append_right _ (List.mem_append_right _ (List.mem_of_getElem? (i := 52) rfl)))))
set_option maxRecDepth 100000 in
theorem tw_831 : Cond.methodLink RX9 308 yX9_ofThere ∈ lw_tbl := List.mem_append_right _ (List.mem_append_right _ (List.mem_append_right _ (List.mem_append_right _ (List.mem_append_right _ (List.mem_of_getElem? (i := 50) rfl)))))
set_option maxRecDepth 100000 in
theorem tw_832 : Cond.constantLong RX9 306 (39) ∈ lw_tbl := List.mem_append_right _ (List.mem_append_right _ (List.mem_append_right _ (List.mem_append_right _ (List.mem_append_right _ (List.mem_of_getElem? (i := 49) rfl)))))
set_option maxRecDepth 100000 in
theorem tw_833 : Cond.constantLong RX9 304 (20) ∈ lw_tbl := List.mem_append_right _ (List.mem_append_right _ (List.mem_append_right _ (List.mem_append_right _ (List.mem_append_right _ (List.mem_of_getElem? (i := 48) rfl)))))
set_option maxRecDepth 100000 in
theorem tw_834 : Cond.constantLong RX9 302 (19) ∈ lw_tbl := List.mem_append_right _ (List.mem_append_right _ (List.mem_append_right _ (List.mem_append_right _ (List.mem_append_right _ (List.mem_of_getElem? (i := 47) rfl)))))
set_option maxRecDepth 100000 in
theorem lt_wsX9_told : ∀ w ∈ wsX9_told, w ∈ lw_tbl := (List.forall_mem_cons.mpr ⟨tw_827, (List.forall_mem_append.mpr ⟨(List.forall_mem_cons.mpr ⟨tw_739, (List.forall_mem_cons.mpr ⟨tw_834, (List.forall_mem_cons.mpr ⟨tw_112, (List.forall_mem_cons.mpr ⟨tw_833, (List.forall_mem_cons.mpr ⟨tw_832, (List.forall_mem_cons.mpr ⟨tw_217, (List.forall_mem_cons.mpr ⟨tw_96, (List.forall_mem_cons.mpr ⟨tw_95, (List.forall_mem_cons.mpr ⟨tw_366, (List.forall_mem_cons.mpr ⟨tw_626, (List.forall_mem_cons.mpr ⟨tw_148, (List.forall_mem_cons.mpr ⟨tw_147, (List.forall_mem_cons.mpr ⟨tw_151, (List.forall_mem_cons.mpr ⟨tw_146, (List.forall_mem_cons.mpr ⟨tw_831, (List.forall_mem_cons.mpr ⟨tw_830, (List.forall_mem_cons.mpr ⟨tw_829, (List.forall_mem_cons.mpr ⟨tw_828, (List.forall_mem_cons.mpr ⟨tw_114, (List.forall_mem_cons.mpr ⟨tw_113, (List.forall_mem_cons.mpr ⟨tw_176, (List.forall_mem_cons.mpr ⟨tw_175, (List.forall_mem_cons.mpr ⟨tw_174, (fun _ h => absurd h List.not_mem_nil)⟩)⟩)⟩)⟩)⟩)⟩)⟩)⟩)⟩)⟩)⟩)⟩)⟩)⟩)⟩)⟩)⟩)⟩)⟩)⟩)⟩)⟩)⟩), lt_wsX90⟩)⟩)
set_option maxRecDepth 100000 in
theorem tw_835 : Cond.selects RX9 yX9_told yX9_told ∈ lw_tbl := List.mem_append_right _ (List.mem_append_right _ (List.mem_append_right _ (List.mem_append_right _ (List.mem_append_right _ (List.mem_of_getElem? (i := 45) rfl)))))
set_option maxRecDepth 100000 in
theorem tw_836 : Cond.instanceMethod yX9_told ∈ lw_tbl := List.mem_append_right _ (List.mem_append_right _ (List.mem_append_right _ (List.mem_append_right _ (List.mem_append_right _ (List.mem_of_getElem? (i := 44) rfl)))))
set_option maxRecDepth 100000 in
theorem tw_837 : Cond.methodLink RL 121 yX9_told ∈ lw_tbl := List.mem_append_right _ (List.mem_append_right _ (List.mem_append_right _ (List.mem_append_right _ (List.mem_append_right _ (List.mem_of_getElem? (i := 43) rfl)))))
set_option maxRecDepth 100000 in
theorem tw_838 : Cond.classLink RL 7 RX8 ∈ lw_tbl := List.mem_append_right _ (List.mem_append_left _ (List.mem_of_getElem? (i := 13) rfl))
set_option maxRecDepth 100000 in
theorem tw_839 : Cond.instantiable RX8 10 ∈ lw_tbl := List.mem_append_right _ (List.mem_append_left _ (List.mem_of_getElem? (i := 14) rfl))
set_option maxRecDepth 100000 in
theorem tw_840 : Cond.classLink RL 10 RX9 ∈ lw_tbl := List.mem_append_right _ (List.mem_append_right _ (List.mem_append_right _ (List.mem_append_left _ (List.mem_of_getElem? (i := 129) rfl))))
set_option maxRecDepth 100000 in
theorem tw_841 : Cond.instantiable RX9 30 ∈ lw_tbl := List.mem_append_right _ (List.mem_append_right _ (List.mem_append_right _ (List.mem_append_left _ (List.mem_of_getElem? (i := 130) rfl))))
set_option maxRecDepth 100000 in
theorem tw_842 : Cond.methodLink RL 9 yX8_init ∈ lw_tbl := List.mem_append_right _ (List.mem_append_left _ (List.mem_of_getElem? (i := 15) rfl))
set_option maxRecDepth 100000 in
theorem tw_843 : Cond.instanceMethod yX8_init ∈ lw_tbl := List.mem_append_right _ (List.mem_append_left _ (List.mem_of_getElem? (i := 16) rfl))
set_option maxRecDepth 100000 in
theorem tw_844 : Cond.methodLink RL 12 yX9_init ∈ lw_tbl := List.mem_append_right _ (List.mem_append_right _ (List.mem_append_right _ (List.mem_append_left _ (List.mem_of_getElem? (i := 131) rfl))))
set_option maxRecDepth 100000 in
theorem tw_845 : Cond.instanceMethod yX9_init ∈ lw_tbl := List.mem_append_right _ (List.mem_append_right _ (List.mem_append_right _ (List.mem_append_left _ (List.mem_of_getElem? (i := 132) rfl))))
set_option maxRecDepth 100000 in
theorem tgL_law_X8_init : GoodIn lw_tbl (wsX8_init) := (goodIn_sub lt_wsX8_init (by decide +kernel))
set_option maxRecDepth 100000 in
theorem tgL_law_X9_init : GoodIn lw_tbl (wsX9_init) := (goodIn_sub lt_wsX9_init (by decide +kernel))
set_option maxRecDepth 100000 in
theorem tgL_law_X8_hassock : GoodIn lw_tbl (wsV RL 13 RX8 yX8_hassock wsX8_hassock) := goodIn_app (goodIn_sub (List.forall_mem_cons.mpr ⟨tw_141, (List.forall_mem_cons.mpr ⟨tw_140, (List.forall_mem_cons.mpr ⟨tw_139, (List.forall_mem_cons.mpr ⟨tw_133, (fun _ h => absurd h List.not_mem_nil)⟩)⟩)⟩)⟩) (by decide +kernel)) (goodIn_sub lt_wsX8_hassock (by decide +kernel))
set_option maxRecDepth 100000 in
theorem tgL_law_X9_hassock : GoodIn lw_tbl (wsV RL 17 RX9 yX9_hassock wsX9_hassock) := goodIn_app (goodIn_sub (List.forall_mem_cons.mpr ⟨tw_158, (List.forall_mem_cons.mpr ⟨tw_157, (List.forall_mem_cons.mpr ⟨tw_156, (List.forall_mem_cons.mpr ⟨tw_151, (fun _ h => absurd h List.not_mem_nil)⟩)⟩)⟩)⟩) (by decide +kernel)) (goodIn_sub lt_wsX9_hassock (by decide +kernel))
set_option maxRecDepth 100000 in
theorem tgL_law_X8_gone : GoodIn lw_tbl (wsV RL 18 RX8 yX8_gone wsX8_gone) := goodIn_app (goodIn_sub (List.forall_mem_cons.mpr ⟨tw_172, (List.forall_mem_cons.mpr ⟨tw_171, (List.forall_mem_cons.mpr ⟨tw_170, (List.forall_mem_cons.mpr ⟨tw_133, (fun _ h => absurd h List.not_mem_nil)⟩)⟩)⟩)⟩) (by decide +kernel)) (goodIn_sub lt_wsX8_gone (by decide +kernel))
set_option maxRecDepth 100000 in
theorem tgL_law_X9_gone : GoodIn lw_tbl (wsV RL 22 RX9 yX9_gone wsX9_gone) := goodIn_app (goodIn_sub (List.forall_mem_cons.mpr ⟨tw_179, (List.forall_mem_cons.mpr ⟨tw_178, (List.forall_mem_cons.mpr ⟨tw_177, (List.forall_mem_cons.mpr ⟨tw_151, (fun _ h => absurd h List.not_mem_nil)⟩)⟩)⟩)⟩) (by decide +kernel)) (goodIn_sub lt_wsX9_gone (by decide +kernel))
set_option maxRecDepth 100000 in
theorem tgL_law_X8_hair : GoodIn lw_tbl (wsV RL 23 RX8 yX8_hair wsX8_hair) := goodIn_app (goodIn_sub (List.forall_mem_cons.mpr ⟨tw_184, (List.forall_mem_cons.mpr ⟨tw_183, (List.forall_mem_cons.mpr ⟨tw_182, (List.forall_mem_cons.mpr ⟨tw_133, (fun _ h => absurd h List.not_mem_nil)⟩)⟩)⟩)⟩) (by decide +kernel)) (goodIn_sub lt_wsX8_hair (by decide +kernel))
set_option maxRecDepth 100000 in
theorem tgL_law_X9_hair : GoodIn lw_tbl (wsV RL 26 RX9 yX9_hair wsX9_hair) := goodIn_app (goodIn_sub (List.forall_mem_cons.mpr ⟨tw_189, (List.forall_mem_cons.mpr ⟨tw_188, (List.forall_mem_cons.mpr ⟨tw_187, (List.forall_mem_cons.mpr ⟨tw_151, (fun _ h => absurd h List.not_mem_nil)⟩)⟩)⟩)⟩) (by decide +kernel)) (goodIn_sub lt_wsX9_hair (by decide +kernel))
set_option maxRecDepth 100000 in
theorem tgL_law_X8_swap : GoodIn lw_tbl (wsV RL 27 RX8 yX8_swap wsX8_swap) := goodIn_app (goodIn_sub (List.forall_mem_cons.mpr ⟨tw_198, (List.forall_mem_cons.mpr ⟨tw_197, (List.forall_mem_cons.mpr ⟨tw_196, (List.forall_mem_cons.mpr ⟨tw_133, (fun _ h => absurd h List.not_mem_nil)⟩)⟩)⟩)⟩) (by decide +kernel)) (goodIn_sub lt_wsX8_swap (by decide +kernel))
set_option maxRecDepth 100000 in
theorem tgL_law_X9_swap : GoodIn lw_tbl (wsV RL 31 RX9 yX9_swap wsX9_swap) := goodIn_app (goodIn_sub (List.forall_mem_cons.mpr ⟨tw_206, (List.forall_mem_cons.mpr ⟨tw_205, (List.forall_mem_cons.mpr ⟨tw_204, (List.forall_mem_cons.mpr ⟨tw_151, (fun _ h => absurd h List.not_mem_nil)⟩)⟩)⟩)⟩) (by decide +kernel)) (goodIn_sub lt_wsX9_swap (by decide +kernel))
set_option maxRecDepth 100000 in
theorem tgL_law_X8_say : GoodIn lw_tbl (wsV RL 32 RX8 yX8_say wsX8_say) := goodIn_app (goodIn_sub (List.forall_mem_cons.mpr ⟨tw_215, (List.forall_mem_cons.mpr ⟨tw_214, (List.forall_mem_cons.mpr ⟨tw_213, (List.forall_mem_cons.mpr ⟨tw_133, (fun _ h => absurd h List.not_mem_nil)⟩)⟩)⟩)⟩) (by decide +kernel)) (goodIn_sub lt_wsX8_say (by decide +kernel))
set_option maxRecDepth 100000 in
theorem tgL_law_X9_say : GoodIn lw_tbl (wsV RL 35 RX9 yX9_say wsX9_say) := goodIn_app (goodIn_sub (List.forall_mem_cons.mpr ⟨tw_222, (List.forall_mem_cons.mpr ⟨tw_221, (List.forall_mem_cons.mpr ⟨tw_220, (List.forall_mem_cons.mpr ⟨tw_151, (fun _ h => absurd h List.not_mem_nil)⟩)⟩)⟩)⟩) (by decide +kernel)) (goodIn_sub lt_wsX9_say (by decide +kernel))
set_option maxRecDepth 100000 in
theorem tgL_law_X8_wipe : GoodIn lw_tbl (wsV RL 36 RX8 yX8_wipe wsX8_wipe) := goodIn_app (goodIn_sub (List.forall_mem_cons.mpr ⟨tw_230, (List.forall_mem_cons.mpr ⟨tw_229, (List.forall_mem_cons.mpr ⟨tw_228, (List.forall_mem_cons.mpr ⟨tw_133, (fun _ h => absurd h List.not_mem_nil)⟩)⟩)⟩)⟩) (by decide +kernel)) (goodIn_sub lt_wsX8_wipe (by decide +kernel))
set_option maxRecDepth 100000 in
theorem tgL_law_X9_wipe : GoodIn lw_tbl (wsV RL 40 RX9 yX9_wipe wsX9_wipe) := goodIn_app (goodIn_sub (List.forall_mem_cons.mpr ⟨tw_234, (List.forall_mem_cons.mpr ⟨tw_233, (List.forall_mem_cons.mpr ⟨tw_232, (List.forall_mem_cons.mpr ⟨tw_151, (fun _ h => absurd h List.not_mem_nil)⟩)⟩)⟩)⟩) (by decide +kernel)) (goodIn_sub lt_wsX9_wipe (by decide +kernel))
set_option maxRecDepth 100000 in
theorem tgL_law_X8_fault : GoodIn lw_tbl (wsV RL 41 RX8 yX8_fault wsX8_fault) := goodIn_app (goodIn_sub (List.forall_mem_cons.mpr ⟨tw_261, (List.forall_mem_cons.mpr ⟨tw_260, (List.forall_mem_cons.mpr ⟨tw_259, (List.forall_mem_cons.mpr ⟨tw_133, (fun _ h => absurd h List.not_mem_nil)⟩)⟩)⟩)⟩) (by decide +kernel)) (goodIn_sub lt_wsX8_fault (by decide +kernel))
set_option maxRecDepth 100000 in
theorem tgL_law_X9_fault : GoodIn lw_tbl (wsV RL 44 RX9 yX9_fault wsX9_fault) := goodIn_app (goodIn_sub (List.forall_mem_cons.mpr ⟨tw_291, (List.forall_mem_cons.mpr ⟨tw_290, (List.forall_mem_cons.mpr ⟨tw_289, (List.forall_mem_cons.mpr ⟨tw_151, (fun _ h => absurd h List.not_mem_nil)⟩)⟩)⟩)⟩) (by decide +kernel)) (goodIn_sub lt_wsX9_fault (by decide +kernel))
set_option maxRecDepth 100000 in
theorem tgL_law_X8_judge : GoodIn lw_tbl (wsV RL 45 RX8 yX8_judge wsX8_judge) := goodIn_app (goodIn_sub (List.forall_mem_cons.mpr ⟨tw_363, (List.forall_mem_cons.mpr ⟨tw_362, (List.forall_mem_cons.mpr ⟨tw_361, (List.forall_mem_cons.mpr ⟨tw_133, (fun _ h => absurd h List.not_mem_nil)⟩)⟩)⟩)⟩) (by decide +kernel)) (goodIn_sub lt_wsX8_judge (by decide +kernel))
set_option maxRecDepth 100000 in
theorem tgL_law_X9_judge : GoodIn lw_tbl (wsV RL 48 RX9 yX9_judge wsX9_judge) := goodIn_app (goodIn_sub (List.forall_mem_cons.mpr ⟨tw_434, (List.forall_mem_cons.mpr ⟨tw_433, (List.forall_mem_cons.mpr ⟨tw_432, (List.forall_mem_cons.mpr ⟨tw_151, (fun _ h => absurd h List.not_mem_nil)⟩)⟩)⟩)⟩) (by decide +kernel)) (goodIn_sub lt_wsX9_judge (by decide +kernel))
set_option maxRecDepth 100000 in
theorem tgL_law_X8_behind : GoodIn lw_tbl (wsV RL 49 RX8 yX8_behind wsX8_behind) := goodIn_app (goodIn_sub (List.forall_mem_cons.mpr ⟨tw_440, (List.forall_mem_cons.mpr ⟨tw_439, (List.forall_mem_cons.mpr ⟨tw_438, (List.forall_mem_cons.mpr ⟨tw_133, (fun _ h => absurd h List.not_mem_nil)⟩)⟩)⟩)⟩) (by decide +kernel)) (goodIn_sub lt_wsX8_behind (by decide +kernel))
set_option maxRecDepth 100000 in
theorem tgL_law_X9_behind : GoodIn lw_tbl (wsV RL 52 RX9 yX9_behind wsX9_behind) := goodIn_app (goodIn_sub (List.forall_mem_cons.mpr ⟨tw_449, (List.forall_mem_cons.mpr ⟨tw_448, (List.forall_mem_cons.mpr ⟨tw_447, (List.forall_mem_cons.mpr ⟨tw_151, (fun _ h => absurd h List.not_mem_nil)⟩)⟩)⟩)⟩) (by decide +kernel)) (goodIn_sub lt_wsX9_behind (by decide +kernel))
set_option maxRecDepth 100000 in
theorem tgL_law_X8_see : GoodIn lw_tbl (wsV RL 53 RX8 yX8_see wsX8_see) := goodIn_app (goodIn_sub (List.forall_mem_cons.mpr ⟨tw_459, (List.forall_mem_cons.mpr ⟨tw_458, (List.forall_mem_cons.mpr ⟨tw_457, (List.forall_mem_cons.mpr ⟨tw_133, (fun _ h => absurd h List.not_mem_nil)⟩)⟩)⟩)⟩) (by decide +kernel)) (goodIn_sub lt_wsX8_see (by decide +kernel))
set_option maxRecDepth 100000 in
theorem tgL_law_X9_see : GoodIn lw_tbl (wsV RL 56 RX9 yX9_see wsX9_see) := goodIn_app (goodIn_sub (List.forall_mem_cons.mpr ⟨tw_467, (List.forall_mem_cons.mpr ⟨tw_466, (List.forall_mem_cons.mpr ⟨tw_465, (List.forall_mem_cons.mpr ⟨tw_151, (fun _ h => absurd h List.not_mem_nil)⟩)⟩)⟩)⟩) (by decide +kernel)) (goodIn_sub lt_wsX9_see (by decide +kernel))
set_option maxRecDepth 100000 in
theorem tgL_law_X8_swept : GoodIn lw_tbl (wsV RL 57 RX8 yX8_swept wsX8_swept) := goodIn_app (goodIn_sub (List.forall_mem_cons.mpr ⟨tw_473, (List.forall_mem_cons.mpr ⟨tw_472, (List.forall_mem_cons.mpr ⟨tw_471, (List.forall_mem_cons.mpr ⟨tw_133, (fun _ h => absurd h List.not_mem_nil)⟩)⟩)⟩)⟩) (by decide +kernel)) (goodIn_sub lt_wsX8_swept (by decide +kernel))
set_option maxRecDepth 100000 in
theorem tgL_law_X9_swept : GoodIn lw_tbl (wsV RL 60 RX9 yX9_swept wsX9_swept) := goodIn_app (goodIn_sub (List.forall_mem_cons.mpr ⟨tw_477, (List.forall_mem_cons.mpr ⟨tw_476, (List.forall_mem_cons.mpr ⟨tw_475, (List.forall_mem_cons.mpr ⟨tw_151, (fun _ h => absurd h List.not_mem_nil)⟩)⟩)⟩)⟩) (by decide +kernel)) (goodIn_sub lt_wsX9_swept (by decide +kernel))
set_option maxRecDepth 100000 in
theorem tgL_law_X8_done : GoodIn lw_tbl (wsV RL 61 RX8 yX8_done wsX8_done) := goodIn_app (goodIn_sub (List.forall_mem_cons.mpr ⟨tw_482, (List.forall_mem_cons.mpr ⟨tw_481, (List.forall_mem_cons.mpr ⟨tw_480, (List.forall_mem_cons.mpr ⟨tw_133, (fun _ h => absurd h List.not_mem_nil)⟩)⟩)⟩)⟩) (by decide +kernel)) (goodIn_sub lt_wsX8_done (by decide +kernel))
set_option maxRecDepth 100000 in
theorem tgL_law_X9_done : GoodIn lw_tbl (wsV RL 64 RX9 yX9_done wsX9_done) := goodIn_app (goodIn_sub (List.forall_mem_cons.mpr ⟨tw_486, (List.forall_mem_cons.mpr ⟨tw_485, (List.forall_mem_cons.mpr ⟨tw_484, (List.forall_mem_cons.mpr ⟨tw_151, (fun _ h => absurd h List.not_mem_nil)⟩)⟩)⟩)⟩) (by decide +kernel)) (goodIn_sub lt_wsX9_done (by decide +kernel))
set_option maxRecDepth 100000 in
theorem tgL_law_X8_borders : GoodIn lw_tbl (wsV RL 65 RX8 yX8_borders wsX8_borders) := goodIn_app (goodIn_sub (List.forall_mem_cons.mpr ⟨tw_498, (List.forall_mem_cons.mpr ⟨tw_497, (List.forall_mem_cons.mpr ⟨tw_496, (List.forall_mem_cons.mpr ⟨tw_133, (fun _ h => absurd h List.not_mem_nil)⟩)⟩)⟩)⟩) (by decide +kernel)) (goodIn_sub lt_wsX8_borders (by decide +kernel))
set_option maxRecDepth 100000 in
theorem tgL_law_X9_borders : GoodIn lw_tbl (wsV RL 68 RX9 yX9_borders wsX9_borders) := goodIn_app (goodIn_sub (List.forall_mem_cons.mpr ⟨tw_506, (List.forall_mem_cons.mpr ⟨tw_505, (List.forall_mem_cons.mpr ⟨tw_504, (List.forall_mem_cons.mpr ⟨tw_151, (fun _ h => absurd h List.not_mem_nil)⟩)⟩)⟩)⟩) (by decide +kernel)) (goodIn_sub lt_wsX9_borders (by decide +kernel))
set_option maxRecDepth 100000 in
theorem tgL_law_X8_row : GoodIn lw_tbl (wsV RL 69 RX8 yX8_row wsX8_row) := goodIn_app (goodIn_sub (List.forall_mem_cons.mpr ⟨tw_534, (List.forall_mem_cons.mpr ⟨tw_533, (List.forall_mem_cons.mpr ⟨tw_532, (List.forall_mem_cons.mpr ⟨tw_133, (fun _ h => absurd h List.not_mem_nil)⟩)⟩)⟩)⟩) (by decide +kernel)) (goodIn_sub lt_wsX8_row (by decide +kernel))
set_option maxRecDepth 100000 in
theorem tgL_law_X9_row : GoodIn lw_tbl (wsV RL 72 RX9 yX9_row wsX9_row) := goodIn_app (goodIn_sub (List.forall_mem_cons.mpr ⟨tw_542, (List.forall_mem_cons.mpr ⟨tw_541, (List.forall_mem_cons.mpr ⟨tw_540, (List.forall_mem_cons.mpr ⟨tw_151, (fun _ h => absurd h List.not_mem_nil)⟩)⟩)⟩)⟩) (by decide +kernel)) (goodIn_sub lt_wsX9_row (by decide +kernel))
set_option maxRecDepth 100000 in
theorem tgL_law_X8_most : GoodIn lw_tbl (wsV RL 73 RX8 yX8_most wsX8_most) := goodIn_app (goodIn_sub (List.forall_mem_cons.mpr ⟨tw_569, (List.forall_mem_cons.mpr ⟨tw_568, (List.forall_mem_cons.mpr ⟨tw_567, (List.forall_mem_cons.mpr ⟨tw_133, (fun _ h => absurd h List.not_mem_nil)⟩)⟩)⟩)⟩) (by decide +kernel)) (goodIn_sub lt_wsX8_most (by decide +kernel))
set_option maxRecDepth 100000 in
theorem tgL_law_X9_most : GoodIn lw_tbl (wsV RL 76 RX9 yX9_most wsX9_most) := goodIn_app (goodIn_sub (List.forall_mem_cons.mpr ⟨tw_581, (List.forall_mem_cons.mpr ⟨tw_580, (List.forall_mem_cons.mpr ⟨tw_579, (List.forall_mem_cons.mpr ⟨tw_151, (fun _ h => absurd h List.not_mem_nil)⟩)⟩)⟩)⟩) (by decide +kernel)) (goodIn_sub lt_wsX9_most (by decide +kernel))
set_option maxRecDepth 100000 in
theorem tgL_law_X8_pile : GoodIn lw_tbl (wsV RL 77 RX8 yX8_pile wsX8_pile) := goodIn_app (goodIn_sub (List.forall_mem_cons.mpr ⟨tw_595, (List.forall_mem_cons.mpr ⟨tw_594, (List.forall_mem_cons.mpr ⟨tw_593, (List.forall_mem_cons.mpr ⟨tw_133, (fun _ h => absurd h List.not_mem_nil)⟩)⟩)⟩)⟩) (by decide +kernel)) (goodIn_sub lt_wsX8_pile (by decide +kernel))
set_option maxRecDepth 100000 in
theorem tgL_law_X9_pile : GoodIn lw_tbl (wsV RL 80 RX9 yX9_pile wsX9_pile) := goodIn_app (goodIn_sub (List.forall_mem_cons.mpr ⟨tw_615, (List.forall_mem_cons.mpr ⟨tw_614, (List.forall_mem_cons.mpr ⟨tw_613, (List.forall_mem_cons.mpr ⟨tw_151, (fun _ h => absurd h List.not_mem_nil)⟩)⟩)⟩)⟩) (by decide +kernel)) (goodIn_sub lt_wsX9_pile (by decide +kernel))
set_option maxRecDepth 100000 in
theorem tgL_law_X8_felt : GoodIn lw_tbl (wsV RL 81 RX8 yX8_felt wsX8_felt) := goodIn_app (goodIn_sub (List.forall_mem_cons.mpr ⟨tw_624, (List.forall_mem_cons.mpr ⟨tw_623, (List.forall_mem_cons.mpr ⟨tw_622, (List.forall_mem_cons.mpr ⟨tw_133, (fun _ h => absurd h List.not_mem_nil)⟩)⟩)⟩)⟩) (by decide +kernel)) (goodIn_sub lt_wsX8_felt (by decide +kernel))
set_option maxRecDepth 100000 in
theorem tgL_law_X9_felt : GoodIn lw_tbl (wsV RL 84 RX9 yX9_felt wsX9_felt) := goodIn_app (goodIn_sub (List.forall_mem_cons.mpr ⟨tw_630, (List.forall_mem_cons.mpr ⟨tw_629, (List.forall_mem_cons.mpr ⟨tw_628, (List.forall_mem_cons.mpr ⟨tw_151, (fun _ h => absurd h List.not_mem_nil)⟩)⟩)⟩)⟩) (by decide +kernel)) (goodIn_sub lt_wsX9_felt (by decide +kernel))
set_option maxRecDepth 100000 in
theorem tgL_law_X8_forget : GoodIn lw_tbl (wsV RL 85 RX8 yX8_forget wsX8_forget) := goodIn_app (goodIn_sub (List.forall_mem_cons.mpr ⟨tw_634, (List.forall_mem_cons.mpr ⟨tw_633, (List.forall_mem_cons.mpr ⟨tw_632, (List.forall_mem_cons.mpr ⟨tw_133, (fun _ h => absurd h List.not_mem_nil)⟩)⟩)⟩)⟩) (by decide +kernel)) (goodIn_sub lt_wsX8_forget (by decide +kernel))
set_option maxRecDepth 100000 in
theorem tgL_law_X9_forget : GoodIn lw_tbl (wsV RL 88 RX9 yX9_forget wsX9_forget) := goodIn_app (goodIn_sub (List.forall_mem_cons.mpr ⟨tw_638, (List.forall_mem_cons.mpr ⟨tw_637, (List.forall_mem_cons.mpr ⟨tw_636, (List.forall_mem_cons.mpr ⟨tw_151, (fun _ h => absurd h List.not_mem_nil)⟩)⟩)⟩)⟩) (by decide +kernel)) (goodIn_sub lt_wsX9_forget (by decide +kernel))
set_option maxRecDepth 100000 in
theorem tgL_law_X8_fits : GoodIn lw_tbl (wsV RL 89 RX8 yX8_fits wsX8_fits) := goodIn_app (goodIn_sub (List.forall_mem_cons.mpr ⟨tw_660, (List.forall_mem_cons.mpr ⟨tw_659, (List.forall_mem_cons.mpr ⟨tw_658, (List.forall_mem_cons.mpr ⟨tw_133, (fun _ h => absurd h List.not_mem_nil)⟩)⟩)⟩)⟩) (by decide +kernel)) (goodIn_sub lt_wsX8_fits (by decide +kernel))
set_option maxRecDepth 100000 in
theorem tgL_law_X9_fits : GoodIn lw_tbl (wsV RL 92 RX9 yX9_fits wsX9_fits) := goodIn_app (goodIn_sub (List.forall_mem_cons.mpr ⟨tw_671, (List.forall_mem_cons.mpr ⟨tw_670, (List.forall_mem_cons.mpr ⟨tw_669, (List.forall_mem_cons.mpr ⟨tw_151, (fun _ h => absurd h List.not_mem_nil)⟩)⟩)⟩)⟩) (by decide +kernel)) (goodIn_sub lt_wsX9_fits (by decide +kernel))
set_option maxRecDepth 100000 in
theorem tgL_law_X8_ask : GoodIn lw_tbl (wsV RL 93 RX8 yX8_ask wsX8_ask) := goodIn_app (goodIn_sub (List.forall_mem_cons.mpr ⟨tw_688, (List.forall_mem_cons.mpr ⟨tw_687, (List.forall_mem_cons.mpr ⟨tw_686, (List.forall_mem_cons.mpr ⟨tw_133, (fun _ h => absurd h List.not_mem_nil)⟩)⟩)⟩)⟩) (by decide +kernel)) (goodIn_sub lt_wsX8_ask (by decide +kernel))
set_option maxRecDepth 100000 in
theorem tgL_law_X9_ask : GoodIn lw_tbl (wsV RL 96 RX9 yX9_ask wsX9_ask) := goodIn_app (goodIn_sub (List.forall_mem_cons.mpr ⟨tw_696, (List.forall_mem_cons.mpr ⟨tw_695, (List.forall_mem_cons.mpr ⟨tw_694, (List.forall_mem_cons.mpr ⟨tw_151, (fun _ h => absurd h List.not_mem_nil)⟩)⟩)⟩)⟩) (by decide +kernel)) (goodIn_sub lt_wsX9_ask (by decide +kernel))
set_option maxRecDepth 100000 in
theorem tgL_law_X8_unpick : GoodIn lw_tbl (wsV RL 97 RX8 yX8_unpick wsX8_unpick) := goodIn_app (goodIn_sub (List.forall_mem_cons.mpr ⟨tw_704, (List.forall_mem_cons.mpr ⟨tw_703, (List.forall_mem_cons.mpr ⟨tw_702, (List.forall_mem_cons.mpr ⟨tw_133, (fun _ h => absurd h List.not_mem_nil)⟩)⟩)⟩)⟩) (by decide +kernel)) (goodIn_sub lt_wsX8_unpick (by decide +kernel))
set_option maxRecDepth 100000 in
theorem tgL_law_X9_unpick : GoodIn lw_tbl (wsV RL 100 RX9 yX9_unpick wsX9_unpick) := goodIn_app (goodIn_sub (List.forall_mem_cons.mpr ⟨tw_712, (List.forall_mem_cons.mpr ⟨tw_711, (List.forall_mem_cons.mpr ⟨tw_710, (List.forall_mem_cons.mpr ⟨tw_151, (fun _ h => absurd h List.not_mem_nil)⟩)⟩)⟩)⟩) (by decide +kernel)) (goodIn_sub lt_wsX9_unpick (by decide +kernel))
set_option maxRecDepth 100000 in
theorem tgL_law_X8_moths : GoodIn lw_tbl (wsV RL 101 RX8 yX8_moths wsX8_moths) := goodIn_app (goodIn_sub (List.forall_mem_cons.mpr ⟨tw_730, (List.forall_mem_cons.mpr ⟨tw_729, (List.forall_mem_cons.mpr ⟨tw_728, (List.forall_mem_cons.mpr ⟨tw_133, (fun _ h => absurd h List.not_mem_nil)⟩)⟩)⟩)⟩) (by decide +kernel)) (goodIn_sub lt_wsX8_moths (by decide +kernel))
set_option maxRecDepth 100000 in
theorem tgL_law_X9_moths : GoodIn lw_tbl (wsV RL 105 RX9 yX9_moths wsX9_moths) := goodIn_app (goodIn_sub (List.forall_mem_cons.mpr ⟨tw_743, (List.forall_mem_cons.mpr ⟨tw_742, (List.forall_mem_cons.mpr ⟨tw_741, (List.forall_mem_cons.mpr ⟨tw_151, (fun _ h => absurd h List.not_mem_nil)⟩)⟩)⟩)⟩) (by decide +kernel)) (goodIn_sub lt_wsX9_moths (by decide +kernel))
set_option maxRecDepth 100000 in
theorem tgL_law_X8_book : GoodIn lw_tbl (wsV RL 106 RX8 yX8_book wsX8_book) := goodIn_app (goodIn_sub (List.forall_mem_cons.mpr ⟨tw_757, (List.forall_mem_cons.mpr ⟨tw_756, (List.forall_mem_cons.mpr ⟨tw_755, (List.forall_mem_cons.mpr ⟨tw_133, (fun _ h => absurd h List.not_mem_nil)⟩)⟩)⟩)⟩) (by decide +kernel)) (goodIn_sub lt_wsX8_book (by decide +kernel))
set_option maxRecDepth 100000 in
theorem tgL_law_X9_book : GoodIn lw_tbl (wsV RL 109 RX9 yX9_book wsX9_book) := goodIn_app (goodIn_sub (List.forall_mem_cons.mpr ⟨tw_771, (List.forall_mem_cons.mpr ⟨tw_770, (List.forall_mem_cons.mpr ⟨tw_769, (List.forall_mem_cons.mpr ⟨tw_151, (fun _ h => absurd h List.not_mem_nil)⟩)⟩)⟩)⟩) (by decide +kernel)) (goodIn_sub lt_wsX9_book (by decide +kernel))
set_option maxRecDepth 100000 in
theorem tgL_law_X8_image : GoodIn lw_tbl (wsV RL 110 RX8 yX8_image wsX8_image) := goodIn_app (goodIn_sub (List.forall_mem_cons.mpr ⟨tw_788, (List.forall_mem_cons.mpr ⟨tw_787, (List.forall_mem_cons.mpr ⟨tw_786, (List.forall_mem_cons.mpr ⟨tw_133, (fun _ h => absurd h List.not_mem_nil)⟩)⟩)⟩)⟩) (by decide +kernel)) (goodIn_sub lt_wsX8_image (by decide +kernel))
set_option maxRecDepth 100000 in
theorem tgL_law_X9_image : GoodIn lw_tbl (wsV RL 113 RX9 yX9_image wsX9_image) := goodIn_app (goodIn_sub (List.forall_mem_cons.mpr ⟨tw_806, (List.forall_mem_cons.mpr ⟨tw_805, (List.forall_mem_cons.mpr ⟨tw_804, (List.forall_mem_cons.mpr ⟨tw_151, (fun _ h => absurd h List.not_mem_nil)⟩)⟩)⟩)⟩) (by decide +kernel)) (goodIn_sub lt_wsX9_image (by decide +kernel))
set_option maxRecDepth 100000 in
theorem tgL_law_X8_restore : GoodIn lw_tbl (wsV RL 114 RX8 yX8_restore wsX8_restore) := goodIn_app (goodIn_sub (List.forall_mem_cons.mpr ⟨tw_814, (List.forall_mem_cons.mpr ⟨tw_813, (List.forall_mem_cons.mpr ⟨tw_812, (List.forall_mem_cons.mpr ⟨tw_133, (fun _ h => absurd h List.not_mem_nil)⟩)⟩)⟩)⟩) (by decide +kernel)) (goodIn_sub lt_wsX8_restore (by decide +kernel))
set_option maxRecDepth 100000 in
theorem tgL_law_X9_restore : GoodIn lw_tbl (wsV RL 117 RX9 yX9_restore wsX9_restore) := goodIn_app (goodIn_sub (List.forall_mem_cons.mpr ⟨tw_818, (List.forall_mem_cons.mpr ⟨tw_817, (List.forall_mem_cons.mpr ⟨tw_816, (List.forall_mem_cons.mpr ⟨tw_151, (fun _ h => absurd h List.not_mem_nil)⟩)⟩)⟩)⟩) (by decide +kernel)) (goodIn_sub lt_wsX9_restore (by decide +kernel))
set_option maxRecDepth 100000 in
theorem tgL_law_X8_told : GoodIn lw_tbl (wsV RL 118 RX8 yX8_told wsX8_told) := goodIn_app (goodIn_sub (List.forall_mem_cons.mpr ⟨tw_826, (List.forall_mem_cons.mpr ⟨tw_825, (List.forall_mem_cons.mpr ⟨tw_824, (List.forall_mem_cons.mpr ⟨tw_133, (fun _ h => absurd h List.not_mem_nil)⟩)⟩)⟩)⟩) (by decide +kernel)) (goodIn_sub lt_wsX8_told (by decide +kernel))
set_option maxRecDepth 100000 in
theorem tgL_law_X9_told : GoodIn lw_tbl (wsV RL 121 RX9 yX9_told wsX9_told) := goodIn_app (goodIn_sub (List.forall_mem_cons.mpr ⟨tw_837, (List.forall_mem_cons.mpr ⟨tw_836, (List.forall_mem_cons.mpr ⟨tw_835, (List.forall_mem_cons.mpr ⟨tw_151, (fun _ h => absurd h List.not_mem_nil)⟩)⟩)⟩)⟩) (by decide +kernel)) (goodIn_sub lt_wsX9_told (by decide +kernel))
