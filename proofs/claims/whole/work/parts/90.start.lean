set_option maxRecDepth 100000 in
theorem tnw_0 : Cond.methodLinkNest RX8 21 yX3_init RX8 ∈ lw_tbl := List.mem_append_right _ (List.mem_append_left _ (List.mem_of_getElem? (i := 58) rfl))
set_option maxRecDepth 100000 in
theorem tnw_1 : Cond.methodLinkNest RX8 28 yX7_init RX8 ∈ lw_tbl := List.mem_append_right _ (List.mem_append_left _ (List.mem_of_getElem? (i := 73) rfl))
set_option maxRecDepth 100000 in
theorem tnw_2 : Cond.methodLinkNest RX8 35 yX0_init RX8 ∈ lw_tbl := List.mem_append_right _ (List.mem_append_left _ (List.mem_of_getElem? (i := 104) rfl))
set_option maxRecDepth 100000 in
theorem tnw_3 : Cond.methodLinkNest RX8 49 yX4_init RX8 ∈ lw_tbl := List.mem_append_right _ (List.mem_append_left _ (List.mem_of_getElem? (i := 148) rfl))
set_option maxRecDepth 100000 in
theorem tnw_4 : Cond.methodLinkNest RX8 56 yX6_init RX8 ∈ lw_tbl := List.mem_append_right _ (List.mem_append_left _ (List.mem_of_getElem? (i := 165) rfl))
set_option maxRecDepth 100000 in
theorem tnw_5 : Cond.methodLinkNest RX8 63 yX2_init RX8 ∈ lw_tbl := List.mem_append_right _ (List.mem_append_left _ (List.mem_of_getElem? (i := 190) rfl))
set_option maxRecDepth 100000 in
theorem tnw_6 : Cond.methodLinkNest RX0 47 yX8_isIn RX8 ∈ lw_tbl := List.mem_append_right _ (List.mem_append_right _ (List.mem_append_left _ (List.mem_of_getElem? (i := 205) rfl)))
set_option maxRecDepth 100000 in
theorem tnw_7 : Cond.methodLinkNest RX1 31 yX8_isHassock RX8 ∈ lw_tbl := List.mem_append_right _ (List.mem_append_right _ (List.mem_append_left _ (List.mem_of_getElem? (i := 31) rfl)))
set_option maxRecDepth 100000 in
theorem tnw_8 : Cond.methodLinkNest RX1 35 yX8_isIn RX8 ∈ lw_tbl := List.mem_append_right _ (List.mem_append_right _ (List.mem_append_left _ (List.mem_of_getElem? (i := 32) rfl)))
set_option maxRecDepth 100000 in
theorem tnw_9 : Cond.methodLinkNest RX2 22 yX4_init RX8 ∈ lw_tbl := List.mem_append_right _ (List.mem_append_left _ (List.mem_of_getElem? (i := 197) rfl))
set_option maxRecDepth 100000 in
theorem tnw_10 : Cond.methodLinkNest RX3 33 yX8_isWithin RX8 ∈ lw_tbl := List.mem_append_right _ (List.mem_append_right _ (List.mem_append_left _ (List.mem_of_getElem? (i := 86) rfl)))

theorem KK_start {s : State} {b : Nat} (hts : ∀ w ∈ lw_tbl, w.before #[Value.ref b] s = true) : ∃ (D : va_G) (cI cZ : ClassId), KK D cI cZ s := by
  obtain ⟨d0, e0, k0⟩ := u_known (C := RX0) (T := TX0) (N := 7) (n := 7) hts lt_wsX00 (hts _ tw_7)
  obtain ⟨d1, e1, k1⟩ := u_known (C := RX1) (T := TX1) (N := 6) (n := 6) hts lt_wsX10 (hts _ tw_20)
  obtain ⟨d2, e2, k2⟩ := u_known (C := RX2) (T := TX2) (N := 3) (n := 3) hts lt_wsX20 (hts _ tw_39)
  obtain ⟨d3, e3, k3⟩ := u_known (C := RX3) (T := TX3) (N := 2) (n := 2) hts lt_wsX30 (hts _ tw_15)
  obtain ⟨d4, e4, k4⟩ := u_known (C := RX4) (T := TX4) (N := 3) (n := 3) hts lt_wsX40 (hts _ tw_47)
  obtain ⟨d5, e5, k5⟩ := u_known (C := RX5) (T := TX5) (N := 1) (n := 1) hts lt_wsX50 (hts _ tw_3)
  obtain ⟨d6, e6, k6⟩ := u_known (C := RX6) (T := TX6) (N := 5) (n := 5) hts lt_wsX60 (hts _ tw_43)
  obtain ⟨d7, e7, k7⟩ := u_known (C := RX7) (T := TX7) (N := 6) (n := 6) hts lt_wsX70 (hts _ tw_11)
  obtain ⟨d8, e8, k8⟩ := u_known (C := RX8) (T := TX8) (N := 10) (n := 10) hts lt_wsX80 (hts _ tw_839)
  obtain ⟨d9, e9, k9⟩ := u_known (C := RX9) (T := TX9) (N := 30) (n := 30) hts lt_wsX90 (hts _ tw_841)
  obtain ⟨cI, kI, pI, a1, a2, a3⟩ := Cond.arrayClass_spec (hts _ tw_28)
  obtain ⟨cZ, kZ, pZ, b1, b2, b3⟩ := Cond.arrayClass_spec (hts _ tw_102)
  refine ⟨(fun k => match k with | 0 => d0 | 1 => d1 | 2 => d2 | 3 => d3 | 4 => d4 | 5 => d5 | 6 => d6 | 7 => d7 | 8 => d8 | _ => d9, fun k => match k with | 0 => e0 | 1 => e1 | 2 => e2 | 3 => e3 | 4 => e4 | 5 => e5 | 6 => e6 | 7 => e7 | 8 => e8 | _ => e9), cI, cZ, ⟨?_, ?_⟩, ?_⟩
  · intro k q hq
    match k, hq with
    | 0, hq => cases hq; exact k0
    | 1, hq => cases hq; exact k1
    | 2, hq => cases hq; exact k2
    | 3, hq => cases hq; exact k3
    | 4, hq => cases hq; exact k4
    | 5, hq => cases hq; exact k5
    | 6, hq => cases hq; exact k6
    | 7, hq => cases hq; exact k7
    | 8, hq => cases hq; exact k8
    | 9, hq => cases hq; exact k9
    | k + 10, hq => simp [vwCl] at hq
  · intro k q hq
    match k, hq with
    | 0, hq => cases hq; exact ⟨fun n z => ⟨fun k h => (by cases h), kI, a2, pI, a3⟩, a1⟩
    | 1, hq => cases hq; exact ⟨fun n z => ⟨fun k h => (by cases h), kZ, b2, pZ, b3⟩, b1⟩
    | k + 2, hq => simp at hq
  · intro q hq
    simp only [NWall, List.mem_cons, List.not_mem_nil, or_false] at hq
    rcases hq with rfl | rfl | rfl | rfl | rfl | rfl | rfl | rfl | rfl | rfl | rfl
    · exact va_Nw.of (w := nwC _) rfl (hts _ tnw_0)
    · exact va_Nw.of (w := nwC _) rfl (hts _ tnw_1)
    · exact va_Nw.of (w := nwC _) rfl (hts _ tnw_2)
    · exact va_Nw.of (w := nwC _) rfl (hts _ tnw_3)
    · exact va_Nw.of (w := nwC _) rfl (hts _ tnw_4)
    · exact va_Nw.of (w := nwC _) rfl (hts _ tnw_5)
    · exact va_Nw.of (w := nwC _) rfl (hts _ tnw_6)
    · exact va_Nw.of (w := nwC _) rfl (hts _ tnw_7)
    · exact va_Nw.of (w := nwC _) rfl (hts _ tnw_8)
    · exact va_Nw.of (w := nwC _) rfl (hts _ tnw_9)
    · exact va_Nw.of (w := nwC _) rfl (hts _ tnw_10)

def q8_init (c_1 : Int32) (c_2 : Int32) (c_3 : Int32) (c_4 : Nat → Int32) (c_5 : Nat → Int32) (c_6 : Nat → Int32) (c_7 : Int32) (c_8 : Int32) (c_9 : Int32) (c_10 : Nat → Int32) (c_11 : Nat → Int32) (c_12 : Nat → Int32) (c_13 : Int32) (c_14 : Nat → Int32) (c_15 : Int32) (c_16 : Int32) (c_17 : Int32) (c_18 : Int32) (c_19 : Int32) (c_20 : Int32) (c_21 : Int32) (c_22 : Int32) (c_23 : Nat → Int32) (c_24 : Nat → Int32) (c_25 : Nat → Int32) (c_26 : Nat → Int32) (c_27 : Nat → Int32) (c_28 : Nat → Int32) (c_29 : Int32) (c_30 : Nat → Int32) (c_31 : Nat → Int32) (c_32 : Int32) (c_33 : Int32) (c_34 : Int32) (c_35 : Nat → Int32) (c_36 : Nat → Int32) (c_37 : Int32) (c_38 : Int32) (c_39 : Int32) (c_40 : Int32) (c_41 : Nat → Int32) (c_42 : Nat → Int32) (c_43 : Nat → Int32) (c_44 : Int32) (c_45 : Nat → Int32) (c_46 : Nat → Int32) (c_47 : Int32) (c_48 : Int32) (c_49 : Int32) (c_50 : Int32) (c_51 : Nat → Int32) (c_52 : Nat → Int32) (c_53 : Nat → Int32) (c_54 : Int32) (c_55 : Nat → Int32) (c_56 : Nat → Int32) : Prop := c_1 = 1023 ∧ c_2 = 20 ∧ c_3 = 0 ∧ c_4 = wool0 ∧ c_5 = zer0 ∧ c_6 = plac0 ∧ Z3 c_12 c_11 c_10 ∧ c_13 = 0 ∧ c_14 = zer0 ∧ (∀ j, j < 256 → c_28 j = mv j) ∧ c_29 = 0 ∧ c_30 = zer0 ∧ c_31 = zer0 ∧ (c_37 = 0 ∧ Z3 c_43 c_42 c_41 ∧ Zf 8 c_46 ∧ Zf 8 c_45) ∧ (c_47 = 0 ∧ Z3 c_53 c_52 c_51 ∧ Zf 8 c_56 ∧ Zf 8 c_55)

def q9_init (c_57 : Int32) (c_58 : Int32) (c_59 : Int32) (c_60 : Int32) (c_61 : Int32) (c_62 : Int32) (c_63 : Int32) (c_64 : Int32) (c_65 : Int32) (c_66 : Int32) (c_67 : Int32) (c_68 : Int32) (c_69 : Int32) (c_70 : Nat → Int32) (c_71 : Nat → Int32) (c_72 : Nat → Int32) (c_73 : Nat → Int32) (c_74 : Nat → Int32) (c_75 : Nat → Int32) (c_76 : Nat → Int32) (c_77 : Nat → Int32) (c_78 : Nat → Int32) (c_79 : Nat → Int32) (c_80 : Nat → Int32) (c_81 : Nat → Int32) (c_82 : Nat → Int32) (c_83 : Nat → Int32) (c_84 : Nat → Int32) (c_85 : Nat → Int32) (c_86 : Nat → Int32) : Prop := c_57 = 1023 ∧ c_58 = 20 ∧ c_59 = 0 ∧ c_60 = 0 ∧ c_61 = 0 ∧ c_70 = wool0 ∧ c_71 = zer0 ∧ c_72 = plac0 ∧ c_73 = zer0 ∧ c_74 = zer0 ∧ c_75 = zer0 ∧ c_86 = zer0

section OK27
variable {l : Launch} {D : va_G} {cI cZ : ClassId}
theorem ok_X8_init : KX8_init l D cI cZ q8_init := walkX8_init ok_X1_init ok_X3_init ok_X7_init ok_X0_init ok_X5_init ok_X4_init ok_X6_init ok_X2_init (by
  rintro g1 g2 g3 f5 f7 f9 ⟨rfl, rfl, rfl, rfl, rfl, rfl⟩ g10 g11 g12 f14 f16 f18 ⟨rfl, rfl, rfl, rfl, rfl, rfl⟩ g19 f21 ⟨rfl, rfl⟩ g22 g23 g24 g25 g26 g27 - g28 g29 f31 f33 f35 f37 f39 - f41 hM g42 f44 f46 ⟨rfl, rfl, rfl⟩ g47 g48 g49 f51 f53 - g54 g56 g57 g58 f60 f62 f64 g66 f68 f70 h1 g71 g73 g74 g75 f77 f79 f81 g83 f85 f87 h2
  exact ⟨rfl, rfl, rfl, rfl, rfl, rfl, Z3_ok ok_0, rfl, rfl, hM, rfl, rfl, rfl, h1, h2⟩)
theorem ok_X9_init : KX9_init l D cI cZ q9_init := walkX9_init (IX9_init_158 := fun n i _ _ _ _ _ _ _ _ _ _ _ _ _ w s p _ _ _ _ _ _ _ _ _ _ _ _ _ _ => ∃ k, k + n = 10 ∧ i = nI k ∧ w = (fun i => if i < k then (50 : Int32) else 0) ∧ p = (fun i => if i < k then nI i else 0)) (by
  refine ⟨⟨10, 0, rfl, rfl, ?_, ?_⟩, ?_⟩
  · funext i
    exact (if_neg (by omega)).symm
  · funext i
    exact (if_neg (by omega)).symm
  rintro n i w p ⟨k, hk, rfl, rfl, rfl⟩
  refine ⟨fun h => ?_, fun h => ?_⟩
  · obtain ⟨rfl, -⟩ := c10e hk h
    exact ⟨rfl, rfl, rfl, rfl, rfl, rfl, rfl, rfl, rfl, rfl, rfl, rfl⟩
  · obtain ⟨h10, hn⟩ := c10 hk h
    rw [cl10 h10]
    refine ⟨in10 h10, in10 h10, ?_⟩
    rintro x rfl
    exact ⟨n - 1, by omega, k + 1, by omega, nI_1 k, wool0_s k, plac0_s k⟩)
end OK27

def IL (xs : Nat → Int32) (L n : Nat) (i : Int32) (c_1 : Int32) (c_2 : Int32) (c_3 : Int32) (c_4 : Nat → Int32) (c_5 : Nat → Int32) (c_6 : Nat → Int32) (c_7 : Int32) (c_8 : Int32) (c_9 : Int32) (c_10 : Nat → Int32) (c_11 : Nat → Int32) (c_12 : Nat → Int32) (c_13 : Int32) (c_14 : Nat → Int32) (c_15 : Int32) (c_16 : Int32) (c_17 : Int32) (c_18 : Int32) (c_19 : Int32) (c_20 : Int32) (c_21 : Int32) (c_22 : Int32) (c_23 : Nat → Int32) (c_24 : Nat → Int32) (c_25 : Nat → Int32) (c_26 : Nat → Int32) (c_27 : Nat → Int32) (c_28 : Nat → Int32) (c_29 : Int32) (c_30 : Nat → Int32) (c_31 : Nat → Int32) (c_32 : Int32) (c_33 : Int32) (c_34 : Int32) (c_35 : Nat → Int32) (c_36 : Nat → Int32) (c_37 : Int32) (c_38 : Int32) (c_39 : Int32) (c_40 : Int32) (c_41 : Nat → Int32) (c_42 : Nat → Int32) (c_43 : Nat → Int32) (c_44 : Int32) (c_45 : Nat → Int32) (c_46 : Nat → Int32) (c_47 : Int32) (c_48 : Int32) (c_49 : Int32) (c_50 : Int32) (c_51 : Nat → Int32) (c_52 : Nat → Int32) (c_53 : Nat → Int32) (c_54 : Int32) (c_55 : Nat → Int32) (c_56 : Nat → Int32) (c_57 : Int32) (c_58 : Int32) (c_59 : Int32) (c_60 : Int32) (c_61 : Int32) (c_62 : Int32) (c_63 : Int32) (c_64 : Int32) (c_65 : Int32) (c_66 : Int32) (c_67 : Int32) (c_68 : Int32) (c_69 : Int32) (c_70 : Nat → Int32) (c_71 : Nat → Int32) (c_72 : Nat → Int32) (c_73 : Nat → Int32) (c_74 : Nat → Int32) (c_75 : Nat → Int32) (c_76 : Nat → Int32) (c_77 : Nat → Int32) (c_78 : Nat → Int32) (c_79 : Nat → Int32) (c_80 : Nat → Int32) (c_81 : Nat → Int32) (c_82 : Nat → Int32) (c_83 : Nat → Int32) (c_84 : Nat → Int32) (c_85 : Nat → Int32) (c_86 : Nat → Int32) : Prop := (∃ k, i = nI (6 * k) ∧ n + 6 * k = L) ∧ inv (c_1, c_2, c_3, c_6, c_5, c_4) (c_57, c_58, c_59, c_72, c_71, c_70) c_12 c_11 c_10 c_13 c_61 c_14 c_75 c_28 c_29 c_60 c_30 c_73 c_31 c_74 c_37 (c_38, c_39, c_40, c_43, c_42, c_41) c_44 c_46 c_45 c_47 (c_48, c_49, c_50, c_53, c_52, c_51) c_54 c_56 c_55 c_85 c_86

set_option maxHeartbeats 40000000 in
set_option maxRecDepth 100000 in
/-- YOUR PART: from the entry, for every script of at most 3072 ints, the law comes to its end with true -/
theorem whole_start {p : Program} {e : Env} {s : State} {m : MethodId} {below : List Frame} {meth : Method} {c : Code} (l : Launch) (hflags : l.flags = flags0) {b L : Nat} {xs : Nat → Int32} (hL : L ≤ 3072) (C0 : lw_At p s m meth c b L xs) : W p l e room_1 s m #[Value.ref b] below meth c s.heap [] 0 0 (lw_Z below #[Value.ref b] s) (entryFrame m ([Value.ref b] : List Value).toArray 4) := by
  obtain ⟨D, cI, cZ, hK⟩ := KK_start C0.2.2.2.2.2.1
  refine walkL_law l C0 hK (kX8_init := ok_X8_init) (kX9_init := ok_X9_init) (kX8_hassock := ok_X8_hassock) (kX9_hassock := ok_X9_hassock) (kX8_gone := ok_X8_gone) (kX9_gone := ok_X9_gone) (kX8_hair := ok_X8_hair) (kX9_hair := ok_X9_hair) (kX8_swap := ok_X8_swap) (kX9_swap := ok_X9_swap) (kX8_say := ok_X8_say) (kX9_say := ok_X9_say) (kX8_wipe := ok_X8_wipe) (kX9_wipe := ok_X9_wipe) (kX8_fault := ok_X8_fault) (kX9_fault := ok_X9_fault) (kX8_judge := ok_X8_judge) (kX9_judge := ok_X9_judge) (kX8_behind := ok_X8_behind) (kX9_behind := ok_X9_behind) (kX8_see := ok_X8_see) (kX9_see := ok_X9_see) (kX8_swept := ok_X8_swept) (kX9_swept := ok_X9_swept) (kX8_done := ok_X8_done) (kX9_done := ok_X9_done) (kX8_borders := ok_X8_borders) (kX9_borders := ok_X9_borders) (kX8_row := ok_X8_row) (kX9_row := ok_X9_row) (kX8_most := ok_X8_most) (kX9_most := ok_X9_most) (kX8_pile := ok_X8_pile) (kX9_pile := ok_X9_pile) (kX8_felt := ok_X8_felt) (kX9_felt := ok_X9_felt) (kX8_forget := ok_X8_forget) (kX9_forget := ok_X9_forget) (kX8_fits := ok_X8_fits) (kX9_fits := ok_X9_fits) (kX8_ask := ok_X8_ask) (kX9_ask := ok_X9_ask) (kX8_unpick := ok_X8_unpick) (kX9_unpick := ok_X9_unpick) (kX8_moths := ok_X8_moths) (kX9_moths := ok_X9_moths) (kX8_book := ok_X8_book) (kX9_book := ok_X9_book) (kX8_image := ok_X8_image) (kX9_image := ok_X9_image) (kX8_restore := ok_X8_restore) (kX9_restore := ok_X9_restore) (kX8_told := ok_X8_told) (kX9_told := ok_X9_told) (IL_law_18 := IL) ?_
  rintro a1 a2 a3 a4 a5 a6 a7 a8 a9 a10 a11 a12 a13 a14 a15 a16 a17 a18 a19 a20 a21 a22 a23 a24 a25 a26 a27 a28 a29 a30 a31 a32 a33 a34 a35 a36 a37 a38 a39 a40 a41 a42 a43 a44 a45 a46 a47 a48 a49 a50 a51 a52 a53 a54 a55 a56 ⟨rfl, rfl, rfl, rfl, rfl, rfl, hZ, rfl, rfl, hM, rfl, rfl, rfl, ⟨rfl, y1, y2, y3⟩, ⟨rfl, y4, y5, y6⟩⟩
  rintro a57 a58 a59 a60 a61 a62 a63 a64 a65 a66 a67 a68 a69 a70 a71 a72 a73 a74 a75 a76 a77 a78 a79 a80 a81 a82 a83 a84 a85 a86 ⟨rfl, rfl, rfl, rfl, rfl, rfl, rfl, rfl, rfl, rfl, rfl, rfl⟩
  refine ⟨⟨L, ⟨0, rfl, rfl⟩, ok_0, rfl, hZ, okC_0, rfl, rfl, hM, okC8_0, rfl, rfl, rfl, Zf_0 8, Zf_0 8, ⟨Or.inl rfl, rfl, y1, y2, y3, fun z => absurd z (by decide)⟩, ⟨Or.inl rfl, rfl, y4, y5, y6, fun z => absurd z (by decide)⟩⟩, ?_⟩
  rintro n i c_1 c_2 c_3 c_4 c_5 c_6 c_7 c_8 c_9 c_10 c_11 c_12 c_13 c_14 c_15 c_16 c_17 c_18 c_19 c_20 c_21 c_22 c_23 c_24 c_25 c_26 c_27 c_28 c_29 c_30 c_31 c_32 c_33 c_34 c_35 c_36 c_37 c_38 c_39 c_40 c_41 c_42 c_43 c_44 c_45 c_46 c_47 c_48 c_49 c_50 c_51 c_52 c_53 c_54 c_55 c_56 c_57 c_58 c_59 c_60 c_61 c_62 c_63 c_64 c_65 c_66 c_67 c_68 c_69 c_70 c_71 c_72 c_73 c_74 c_75 c_76 c_77 c_78 c_79 c_80 c_81 c_82 c_83 c_84 c_85 c_86 ⟨⟨k, rfl, hn⟩, hI⟩
  refine ⟨fun _ => trivial, fun h => ?_⟩
  have hb : 6 * k + 6 ≤ L := by
    rcases Nat.lt_or_ge L 6 with q | q
    · have h1 : nI L - (6 : Int32) < 0 := pk_sneg (a := L) (b := 6) (by decide) q
      have h2 : (0 : Int32) ≤ nI (6 * k) := nI_pos' (by omega)
      have h3 : nI L - (6 : Int32) < nI (6 * k) := by
        rw [Int32.lt_iff_toInt_lt] at h1 ⊢
        rw [Int32.le_iff_toInt_le] at h2
        omega
      exact absurd h3 h
    · have h1 : nI L - (6 : Int32) = nI (L - 6) := pk_sub (a := L) (b := 6) q
      have h2 : ¬ nI (L - 6) < nI (6 * k) := by
        rw [← h1]
        exact h
      have h3 := (not_congr (nI_ltI (a := L - 6) (b := 6 * k) (by omega) (by omega))).mp h2
      omega
  have v : ∀ (j : Nat) (x : Int32), x = nI j → j < 6 → vp_in (nI (6 * k) + x) L := fun j x hx hj => by
    subst hx
    rw [nI_add]
    exact vp_in_nI (by omega) (by omega)
  have h1 := v 1 1 rfl (by decide)
  have h2 := v 2 2 rfl (by decide)
  have h3 := v 3 3 rfl (by decide)
  have h4 := v 4 4 rfl (by decide)
  have h5 := v 5 5 rfl (by decide)
  have hJ : ∀ (c_1 : Int32) (c_2 : Int32) (c_3 : Int32) (c_4 : Nat → Int32) (c_5 : Nat → Int32) (c_6 : Nat → Int32) (c_7 : Int32) (c_8 : Int32) (c_9 : Int32) (c_10 : Nat → Int32) (c_11 : Nat → Int32) (c_12 : Nat → Int32) (c_13 : Int32) (c_14 : Nat → Int32) (c_15 : Int32) (c_16 : Int32) (c_17 : Int32) (c_18 : Int32) (c_19 : Int32) (c_20 : Int32) (c_21 : Int32) (c_22 : Int32) (c_23 : Nat → Int32) (c_24 : Nat → Int32) (c_25 : Nat → Int32) (c_26 : Nat → Int32) (c_27 : Nat → Int32) (c_28 : Nat → Int32) (c_29 : Int32) (c_30 : Nat → Int32) (c_31 : Nat → Int32) (c_32 : Int32) (c_33 : Int32) (c_34 : Int32) (c_35 : Nat → Int32) (c_36 : Nat → Int32) (c_37 : Int32) (c_38 : Int32) (c_39 : Int32) (c_40 : Int32) (c_41 : Nat → Int32) (c_42 : Nat → Int32) (c_43 : Nat → Int32) (c_44 : Int32) (c_45 : Nat → Int32) (c_46 : Nat → Int32) (c_47 : Int32) (c_48 : Int32) (c_49 : Int32) (c_50 : Int32) (c_51 : Nat → Int32) (c_52 : Nat → Int32) (c_53 : Nat → Int32) (c_54 : Int32) (c_55 : Nat → Int32) (c_56 : Nat → Int32) (c_57 : Int32) (c_58 : Int32) (c_59 : Int32) (c_60 : Int32) (c_61 : Int32) (c_62 : Int32) (c_63 : Int32) (c_64 : Int32) (c_65 : Int32) (c_66 : Int32) (c_67 : Int32) (c_68 : Int32) (c_69 : Int32) (c_70 : Nat → Int32) (c_71 : Nat → Int32) (c_72 : Nat → Int32) (c_73 : Nat → Int32) (c_74 : Nat → Int32) (c_75 : Nat → Int32) (c_76 : Nat → Int32) (c_77 : Nat → Int32) (c_78 : Nat → Int32) (c_79 : Nat → Int32) (c_80 : Nat → Int32) (c_81 : Nat → Int32) (c_82 : Nat → Int32) (c_83 : Nat → Int32) (c_84 : Nat → Int32) (c_85 : Nat → Int32) (c_86 : Nat → Int32), inv (c_1, c_2, c_3, c_6, c_5, c_4) (c_57, c_58, c_59, c_72, c_71, c_70) c_12 c_11 c_10 c_13 c_61 c_14 c_75 c_28 c_29 c_60 c_30 c_73 c_31 c_74 c_37 (c_38, c_39, c_40, c_43, c_42, c_41) c_44 c_46 c_45 c_47 (c_48, c_49, c_50, c_53, c_52, c_51) c_54 c_56 c_55 c_85 c_86 → ∀ x : Int32, x = (nI (6 * k) + (6 : Int32)) → ∃ n1 : Nat, n1 < n ∧ IL xs L n1 x c_1 c_2 c_3 c_4 c_5 c_6 c_7 c_8 c_9 c_10 c_11 c_12 c_13 c_14 c_15 c_16 c_17 c_18 c_19 c_20 c_21 c_22 c_23 c_24 c_25 c_26 c_27 c_28 c_29 c_30 c_31 c_32 c_33 c_34 c_35 c_36 c_37 c_38 c_39 c_40 c_41 c_42 c_43 c_44 c_45 c_46 c_47 c_48 c_49 c_50 c_51 c_52 c_53 c_54 c_55 c_56 c_57 c_58 c_59 c_60 c_61 c_62 c_63 c_64 c_65 c_66 c_67 c_68 c_69 c_70 c_71 c_72 c_73 c_74 c_75 c_76 c_77 c_78 c_79 c_80 c_81 c_82 c_83 c_84 c_85 c_86 := by
    intro c_1 c_2 c_3 c_4 c_5 c_6 c_7 c_8 c_9 c_10 c_11 c_12 c_13 c_14 c_15 c_16 c_17 c_18 c_19 c_20 c_21 c_22 c_23 c_24 c_25 c_26 c_27 c_28 c_29 c_30 c_31 c_32 c_33 c_34 c_35 c_36 c_37 c_38 c_39 c_40 c_41 c_42 c_43 c_44 c_45 c_46 c_47 c_48 c_49 c_50 c_51 c_52 c_53 c_54 c_55 c_56 c_57 c_58 c_59 c_60 c_61 c_62 c_63 c_64 c_65 c_66 c_67 c_68 c_69 c_70 c_71 c_72 c_73 c_74 c_75 c_76 c_77 c_78 c_79 c_80 c_81 c_82 c_83 c_84 c_85 c_86 hi x hx
    refine ⟨n - 6, by omega, ⟨k + 1, ?_, by omega⟩, hi⟩
    rw [hx]
    exact nI_add (6 * k) 6
  refine ⟨vp_in_nI (by omega) (by omega), ?_⟩
  rintro x -
  exact ⟨fun _ => lc_0 h1 h2 h3 h4 h5 hI hJ, fun _ => ⟨fun _ => lc_1 h1 h2 h3 h4 h5 hI hJ, fun _ => ⟨fun _ => lc_2 h1 h2 h3 h4 h5 hI hJ, fun _ => ⟨fun _ => lc_3 h1 h2 h3 h4 h5 hI hJ, fun _ => ⟨fun _ => lc_4 h1 h2 h3 h4 h5 hI hJ, fun _ => ⟨fun _ => lc_5 h1 h2 h3 h4 h5 hI hJ, fun _ => ⟨fun _ => lc_6 h1 h2 h3 h4 h5 hI hJ, fun _ => ⟨fun _ => lc_7 h1 h2 h3 h4 h5 hI hJ, fun _ => ⟨fun _ => lc_8 h1 h2 h3 h4 h5 hI hJ, fun _ => ⟨fun _ => lc_9 h1 h2 h3 h4 h5 hI hJ, fun _ => ⟨fun _ => lc_10 h1 h2 h3 h4 h5 hI hJ, fun _ => ⟨fun _ => lc_11 h1 h2 h3 h4 h5 hI hJ, fun _ => ⟨fun _ => lc_12 h1 h2 h3 h4 h5 hI hJ, fun _ => ⟨fun _ => lc_13 h1 h2 h3 h4 h5 hI hJ, fun _ => ⟨fun _ => lc_14 h1 h2 h3 h4 h5 hI hJ, fun _ => ⟨fun _ => lc_15 h1 h2 h3 h4 h5 hI hJ, fun _ => ⟨fun _ => lc_16 h1 h2 h3 h4 h5 hI hJ, fun _ => ⟨fun _ => lc_17 h1 h2 h3 h4 h5 hI hJ, fun _ => ⟨fun _ => lc_18 h1 h2 h3 h4 h5 hI hJ, fun _ => ⟨fun _ => lc_19 h1 h2 h3 h4 h5 hI hJ, fun _ => ⟨fun _ => lc_20 h1 h2 h3 h4 h5 hI hJ, fun _ => ⟨fun _ => lc_21 h1 h2 h3 h4 h5 hI hJ, fun _ => ⟨fun _ => lc_22 h1 h2 h3 h4 h5 hI hJ, fun _ => ⟨fun _ => lc_23 h1 h2 h3 h4 h5 hI hJ, fun _ => ⟨fun _ => lc_24 h1 h2 h3 h4 h5 hI hJ, fun _ => ⟨fun _ => lc_25 h1 h2 h3 h4 h5 hI hJ, fun _ => hJ _ _ _ _ _ _ _ _ _ _ _ _ _ _ _ _ _ _ _ _ _ _ _ _ _ _ _ _ _ _ _ _ _ _ _ _ _ _ _ _ _ _ _ _ _ _ _ _ _ _ _ _ _ _ _ _ _ _ _ _ _ _ _ _ _ _ _ _ _ _ _ _ _ _ _ _ _ _ _ _ _ _ _ _ _ _ hI⟩⟩⟩⟩⟩⟩⟩⟩⟩⟩⟩⟩⟩⟩⟩⟩⟩⟩⟩⟩⟩⟩⟩⟩⟩⟩
