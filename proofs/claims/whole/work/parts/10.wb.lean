theorem mwX0_weighPile_1 : Cond.fieldLink RX0 24 "HassockSee$Arrangements" "weightOf" "[I" ∈ wsX0_weighPile := List.mem_of_getElem? (i := 1) rfl
theorem mwX0_weighPile_2 : Cond.fieldLink RX0 88 "HassockSee$Diocese" "wool" "[I" ∈ wsX0_weighPile := List.mem_of_getElem? (i := 2) rfl
theorem mwX0_weighPile_3 : Cond.fieldLink RX0 51 "HassockSee$Diocese" "stitches" "[I" ∈ wsX0_weighPile := List.mem_of_getElem? (i := 3) rfl
theorem mwX0_weighPile_4 : Cond.static yX8_isIn ∈ wsX0_weighPile := List.mem_of_getElem? (i := 4) rfl
theorem mwX0_weighPile_5 : Cond.initialized RX8 ∈ wsX0_weighPile := List.mem_of_getElem? (i := 5) rfl
theorem mcX0_weighPile_X0 : ∀ w ∈ u_ws RX0 TX0 7, w ∈ wsX0_weighPile := fun _ h => (List.mem_cons_of_mem _ (List.mem_append_left _ (List.mem_append_right _ h)))
theorem mcX0_weighPile_X1 : ∀ w ∈ u_ws RX1 TX1 6, w ∈ wsX0_weighPile := fun _ h => (List.mem_cons_of_mem _ (List.mem_append_right _ h))
def KX0_weighPile (l : Launch) (D : va_G) (cI cZ : ClassId) (P : Int32 → (Nat → Int32) → (Nat → Int32) → (Nat → Int32) → Prop) (Q : Int32 → (Nat → Int32) → (Nat → Int32) → (Nat → Int32) → Int32 → Prop) : Prop := ∀ (sz : Nat) (h_this h_a0 h_this_between h_this_rowOf h_this_stitchesOf h_this_parishesOf h_this_weightOf h_a0_wool h_a0_stitches h_a0_place : Nat) (p1 : Int32) (v_leastBorders : Int32) (v_firstInRow : Int32) (v_weightOf : (Nat → Int32)) (v_a0_there : Int32) (v_a0_hair : Int32) (v_a0_year : Int32) (v_a0_stitches : (Nat → Int32)) (v_a0_wool : (Nat → Int32)), P p1 v_weightOf v_a0_stitches v_a0_wool → MI l yX0_weighPile wsX0_weighPile ({ frames := 1, cells := 0, slots := 0, locals := 21 }) [.ref h_this, .ref h_a0, .int p1] D cI cZ sz [(h_this, .inr (0, [.int v_leastBorders, .int v_firstInRow, .ref h_this_between, .ref h_this_rowOf, .ref h_this_stitchesOf, .ref h_this_parishesOf, .ref h_this_weightOf])), (h_this_weightOf, .inl (cI, 1024, .inl v_weightOf)), (h_a0, .inr (1, [.int v_a0_there, .int v_a0_hair, .int v_a0_year, .ref h_a0_wool, .ref h_a0_stitches, .ref h_a0_place])), (h_a0_stitches, .inl (cI, 10, .inl v_a0_stitches)), (h_a0_wool, .inl (cI, 10, .inl v_a0_wool))] (fun r (u : Unit) => Q p1 v_weightOf v_a0_stitches v_a0_wool r ) (fun u => [(h_this, .inr (0, [.int v_leastBorders, .int v_firstInRow, .ref h_this_between, .ref h_this_rowOf, .ref h_this_stitchesOf, .ref h_this_parishesOf, .ref h_this_weightOf])), (h_this_weightOf, .inl (cI, 1024, .inl v_weightOf)), (h_a0, .inr (1, [.int v_a0_there, .int v_a0_hair, .int v_a0_year, .ref h_a0_wool, .ref h_a0_stitches, .ref h_a0_place])), (h_a0_stitches, .inl (cI, 10, .inl v_a0_stitches)), (h_a0_wool, .inl (cI, 10, .inl v_a0_wool))]) 0 0
set_option maxHeartbeats 4000000 in
set_option maxRecDepth 100000 in
theorem walkX0_weighPile {l : Launch} {D : va_G} {cI cZ : ClassId} {PX0_weighPile : Int32 → (Nat → Int32) → (Nat → Int32) → (Nat → Int32) → Prop} {QX0_weighPile : Int32 → (Nat → Int32) → (Nat → Int32) → (Nat → Int32) → Int32 → Prop} {PX8_isIn : Int32 → Int32 → Prop} {QX8_isIn : Int32 → Int32 → Int32 → Prop} {PJ6_bitCount_0f7a4 : Int32 → Prop} {QJ6_bitCount_0f7a4 : Int32 → Int32 → Prop} (kX8_isIn : KX8_isIn l D cI cZ PX8_isIn QX8_isIn) (kJ6_bitCount_0f7a4 : KJ6_bitCount_0f7a4 l D cI cZ PJ6_bitCount_0f7a4 QJ6_bitCount_0f7a4) (IX0_weighPile_2 : Int32 → (Nat → Int32) → (Nat → Int32) → (Nat → Int32) → Nat → Int32 → Int32 → Prop) (hvc : ∀ (p1 : Int32) (v_weightOf : (Nat → Int32)) (v_a0_stitches : (Nat → Int32)) (v_a0_wool : (Nat → Int32)), PX0_weighPile p1 v_weightOf v_a0_stitches v_a0_wool → ((∃ n0 : Nat, IX0_weighPile_2 p1 v_weightOf v_a0_stitches v_a0_wool n0 p1 (0 : Int32)) ∧ (∀ (n_1 : Nat) (i_2 : Int32), (IX0_weighPile_2 p1 v_weightOf v_a0_stitches v_a0_wool n_1 p1 i_2 → (((10 : Int32) ≤ i_2 → (QX0_weighPile p1 v_weightOf v_a0_stitches v_a0_wool (-6 : Int32) )) ∧ (¬ (10 : Int32) ≤ i_2 → (PX8_isIn p1 i_2 ∧ (∀ r_3 : Int32, QX8_isIn p1 i_2 r_3 → ((r_3 = 0 → (∀ x_4 : Int32, x_4 = (i_2 + (1 : Int32)) → (∃ n1 : Nat, n1 < n_1 ∧ IX0_weighPile_2 p1 v_weightOf v_a0_stitches v_a0_wool n1 p1 x_4))) ∧ (¬ r_3 = 0 → (vp_in (p1 &&& (((1 : Int32) <<< (i_2 &&& 31)) ^^^ (-1 : Int32))) 1024 ∧ (∀ x_6 : Int32, x_6 = (v_weightOf ((p1 &&& (((1 : Int32) <<< (i_2 &&& 31)) ^^^ (-1 : Int32)))).toNatClampNeg) → ((x_6 = (-6 : Int32) → (∀ x_7 : Int32, x_7 = (i_2 + (1 : Int32)) → (∃ n1 : Nat, n1 < n_1 ∧ IX0_weighPile_2 p1 v_weightOf v_a0_stitches v_a0_wool n1 p1 x_7))) ∧ (¬ x_6 = (-6 : Int32) → (vp_in i_2 10 ∧ ((((v_a0_wool (i_2).toNatClampNeg) / (5 : Int32)) < x_6 → (∀ x_9 : Int32, x_9 = (i_2 + (1 : Int32)) → (∃ n1 : Nat, n1 < n_1 ∧ IX0_weighPile_2 p1 v_weightOf v_a0_stitches v_a0_wool n1 p1 x_9))) ∧ (¬ ((v_a0_wool (i_2).toNatClampNeg) / (5 : Int32)) < x_6 → (vp_in i_2 10 ∧ (PJ6_bitCount_0f7a4 (v_a0_stitches (i_2).toNatClampNeg) ∧ (∀ r_11 : Int32, QJ6_bitCount_0f7a4 (v_a0_stitches (i_2).toNatClampNeg) r_11 → (QX0_weighPile p1 v_weightOf v_a0_stitches v_a0_wool ((x_6 + (1 : Int32)) + r_11) ))))))))))))))))))))) : KX0_weighPile l D cI cZ PX0_weighPile QX0_weighPile := by
  intro sz h_this h_a0 h_this_between h_this_rowOf h_this_stitchesOf h_this_parishesOf h_this_weightOf h_a0_wool h_a0_stitches h_a0_place p1 v_leastBorders v_firstInRow v_weightOf v_a0_there v_a0_hair v_a0_year v_a0_stitches v_a0_wool hpre
  have vc := hvc p1 v_weightOf v_a0_stitches v_a0_wool hpre
  clear hvc
  refine Met.ofW (cc := cX0_weighPile) (maxL := 5) (ret := (some .int)) (by decide) rfl ?_
  intro p e s m args below meth c s₁ B hml hv
  obtain ⟨rfl, hsz, hP, hK, hD0⟩ := hv
  have hx := B.exec
  have hb := B.bytes
  have hr := B.returns
  have hts := atoms_spec (ws := wsX0_weighPile) B.pre
  have hown : s.vm.findClass RX0 = some m.cls := findClass_of_methodNamed B.named
  have hlocks := B.notSynchronized
  subst hsz
  have hD := hD0.self (sz := s.heap.size)
  generalize hAe : va_A [(h_this, .inr (0, [.int v_leastBorders, .int v_firstInRow, .ref h_this_between, .ref h_this_rowOf, .ref h_this_stitchesOf, .ref h_this_parishesOf, .ref h_this_weightOf])), (h_this_weightOf, .inl (cI, 1024, .inl v_weightOf)), (h_a0, .inr (1, [.int v_a0_there, .int v_a0_hair, .int v_a0_year, .ref h_a0_wool, .ref h_a0_stitches, .ref h_a0_place])), (h_a0_stitches, .inl (cI, 10, .inl v_a0_stitches)), (h_a0_wool, .inl (cI, 10, .inl v_a0_wool))] s.heap.size = A at hD ⊢
  have hA : ∀ q : Nat, s.heap.size ≤ q → A q := fun q h => by rw [← hAe]; exact Or.inr h
  have hS : va_S A s.heap s.heap [] := va_S.rf
  have hP : va_P D vwCl [(h_this, .inr (0, [.int v_leastBorders, .int v_firstInRow, .ref h_this_between, .ref h_this_rowOf, .ref h_this_stitchesOf, .ref h_this_parishesOf, .ref h_this_weightOf])), (h_this_weightOf, .inl (cI, 1024, .inl v_weightOf)), (h_a0, .inr (1, [.int v_a0_there, .int v_a0_hair, .int v_a0_year, .ref h_a0_wool, .ref h_a0_stitches, .ref h_a0_place])), (h_a0_stitches, .inl (cI, 10, .inl v_a0_stitches)), (h_a0_wool, .inl (cI, 10, .inl v_a0_wool))] s.heap := hP
  have hl := lv_entry ([.ref h_this, .ref h_a0, .int p1]) (n := 5) (Nat.le_of_ble_eq_true rfl)
  rw [lg_entry_eq]
  generalize (lg_sl ([.ref h_this, .ref h_a0, .int p1]) ++ List.replicate (5 - (lg_sl ([.ref h_this, .ref h_a0, .int p1])).length) Slot.unset).toArray = ls at hl ⊢
  have hl : lv_has ls 5 [(0, .ref h_this), (1, .ref h_a0), (2, .int p1)] := hl
  refine lv_iconst (v := (0 : Int32)) hx hb dX0_weighPile_0 (by decide) ?_
  refine lv_istore_n (lv' := [(3, .int (0 : Int32)), (0, .ref h_this), (1, .ref h_a0), (2, .int p1)]) hx hb dX0_weighPile_1 rfl hl (by decide) rfl (fun ls hl => ?_)
  obtain ⟨⟨n0_1, hi0_1⟩, vc⟩ := vc
  refine kloop (V := Int32) (I := fun n v => IX0_weighPile_2 p1 v_weightOf v_a0_stitches v_a0_wool n p1 (v)) (wv := fun v => [(h_this, .inr (0, [.int v_leastBorders, .int v_firstInRow, .ref h_this_between, .ref h_this_rowOf, .ref h_this_stitchesOf, .ref h_this_parishesOf, .ref h_this_weightOf])), (h_this_weightOf, .inl (cI, 1024, .inl v_weightOf)), (h_a0, .inr (1, [.int v_a0_there, .int v_a0_hair, .int v_a0_year, .ref h_a0_wool, .ref h_a0_stitches, .ref h_a0_place])), (h_a0_stitches, .inl (cI, 10, .inl v_a0_stitches)), (h_a0_wool, .inl (cI, 10, .inl v_a0_wool))]) (lv := fun v => [(0, .ref h_this), (1, .ref h_a0), (2, .int p1), (3, .int (v))]) n0_1 ((0 : Int32)) hi0_1 hP hD hS (lv_sub hl [1, 2, 3, 0] rfl) ?_
  intro n_1 v_1 hi_1 ih_1 H locs hP hD hS ls hl
  obtain ⟨i_2, rfl⟩ : ∃ z, z = v_1 := ⟨_, rfl⟩
  replace vc := vc n_1 i_2 hi_1
  have hP : va_P D vwCl [(h_this, .inr (0, [.int v_leastBorders, .int v_firstInRow, .ref h_this_between, .ref h_this_rowOf, .ref h_this_stitchesOf, .ref h_this_parishesOf, .ref h_this_weightOf])), (h_this_weightOf, .inl (cI, 1024, .inl v_weightOf)), (h_a0, .inr (1, [.int v_a0_there, .int v_a0_hair, .int v_a0_year, .ref h_a0_wool, .ref h_a0_stitches, .ref h_a0_place])), (h_a0_stitches, .inl (cI, 10, .inl v_a0_stitches)), (h_a0_wool, .inl (cI, 10, .inl v_a0_wool))] H := hP
  have hD : va_D A [(h_this, .inr (0, [.int v_leastBorders, .int v_firstInRow, .ref h_this_between, .ref h_this_rowOf, .ref h_this_stitchesOf, .ref h_this_parishesOf, .ref h_this_weightOf])), (h_this_weightOf, .inl (cI, 1024, .inl v_weightOf)), (h_a0, .inr (1, [.int v_a0_there, .int v_a0_hair, .int v_a0_year, .ref h_a0_wool, .ref h_a0_stitches, .ref h_a0_place])), (h_a0_stitches, .inl (cI, 10, .inl v_a0_stitches)), (h_a0_wool, .inl (cI, 10, .inl v_a0_wool))] := hD
  have hl : lv_has ls 5 [(0, .ref h_this), (1, .ref h_a0), (2, .int p1), (3, .int i_2)] := hl
  refine lv_iload_n hx hb dX0_weighPile_2 rfl (lv_at hl 3 rfl) ?_
  refine lv_bipush (v := (10 : Int32)) hx hb dX0_weighPile_3 (by decide) ?_
  refine lv_icmp_ge (tgt := 71) hx hb dX0_weighPile_5 (by decide) (fun c_ => ?_) (fun c_ => ?_)
  · replace vc := vc.1 c_
    refine lv_bipush (v := (-6 : Int32)) hx hb dX0_weighPile_71 (by decide) ?_
    exact W.iret (v := (-6 : Int32)) hx hb hr (fun t ht hW => ⟨⟨(-6 : Int32), (), rfl, vc, QB_mk (hP.sub [0, 1, 2, 3, 4] rfl) (hD.sub [0, 1, 2, 3, 4] rfl rfl) ht⟩, hS.F ht⟩) hS.2.2 dX0_weighPile_73
  · replace vc := vc.2 c_
    refine lv_iload_n hx hb dX0_weighPile_8 rfl (lv_at hl 2 rfl) ?_
    refine lv_iload_n hx hb dX0_weighPile_9 rfl (lv_at hl 3 rfl) ?_
    refine kj0_i (rest := []) (kSN ⟨hx, hb, hml, hown, hts⟩ (kX8_isIn _ p1 i_2 vc.1) ⟨va_cnB 2 hts gX0_weighPile_X8_isIn_n47 rfl rfl rfl (KK_n6 hK) (hts _ mwX0_weighPile_5) (by decide +kernel) ⟨(Nat.le_of_ble_eq_true rfl), (Nat.le_of_ble_eq_true rfl)⟩, (hts _ mwX0_weighPile_4), trivial⟩ hK rfl rfl hl.1 (Nat.le_of_ble_eq_true rfl) dX0_weighPile_10 ⟨(Nat.le_of_ble_eq_true rfl), (Nat.le_of_ble_eq_true rfl)⟩) hP hS hA (fun r_3 H locs hq_ hP hS => ?_)
    replace vc := vc.2 r_3 hq_
    have hP : va_P D vwCl [(h_this, .inr (0, [.int v_leastBorders, .int v_firstInRow, .ref h_this_between, .ref h_this_rowOf, .ref h_this_stitchesOf, .ref h_this_parishesOf, .ref h_this_weightOf])), (h_this_weightOf, .inl (cI, 1024, .inl v_weightOf)), (h_a0, .inr (1, [.int v_a0_there, .int v_a0_hair, .int v_a0_year, .ref h_a0_wool, .ref h_a0_stitches, .ref h_a0_place])), (h_a0_stitches, .inl (cI, 10, .inl v_a0_stitches)), (h_a0_wool, .inl (cI, 10, .inl v_a0_wool))] H := hP
    refine lv_if_eq (tgt := 65) hx hb dX0_weighPile_13 (by decide) (fun c_ => ?_) (fun c_ => ?_)
    · replace vc := vc.1 c_
      obtain ⟨x_4, ex_4⟩ : ∃ y_ : Int32, y_ = (i_2 + (1 : Int32)) := ⟨_, rfl⟩
      replace vc := vc x_4 ex_4
      refine lv_iinc (v := x_4) (lv' := [(3, .int x_4), (0, .ref h_this), (1, .ref h_a0), (2, .int p1)]) hx hb dX0_weighPile_65 hl (k := 3) rfl (by rw [ex_4]; rfl) (by decide) rfl (fun ls hl => ?_)
      refine lv_goto (tgt := 2) hx hb dX0_weighPile_68 (by decide) ?_
      obtain ⟨n1_, hlt_, hi_⟩ := vc
      exact ih_1 n1_ (x_4) hlt_ hi_ _ _ hP hD hS ls (lv_sub hl [1, 2, 3, 0] rfl)
    · replace vc := vc.2 c_
      refine lv_aload_n hx hb dX0_weighPile_16 rfl (lv_at hl 0 rfl) ?_
      refine va_get (D := D) (ci := 0) (v := .ref h_this_weightOf) (C := RX0) (T := TX0) (N := 7) hx hb hts mcX0_weighPile_X0 hown hK.1 hP 0 rfl rfl 6 (by decide) (hts _ mwX0_weighPile_1) (fun _ h9 => h9) rfl dX0_weighPile_17 ?_
      refine lv_iload_n hx hb dX0_weighPile_20 rfl (lv_at hl 2 rfl) ?_
      refine lv_iconst (v := (1 : Int32)) hx hb dX0_weighPile_21 (by decide) ?_
      refine lv_iload_n hx hb dX0_weighPile_22 rfl (lv_at hl 3 rfl) ?_
      refine lv_ishl hx hb dX0_weighPile_23 ?_
      refine lv_iconst (v := (-1 : Int32)) hx hb dX0_weighPile_24 (by decide) ?_
      refine lv_ixor hx hb dX0_weighPile_25 ?_
      refine lv_iand hx hb dX0_weighPile_26 ?_
      have hi_5 := vc.1
      replace vc := vc.2
      refine va_iald hx hb hK.1 hP 1 0 rfl rfl hi_5 dX0_weighPile_27 ?_
      refine lv_topi (fun x_6 ex_6 => ?_)
      replace vc := vc x_6 ex_6
      refine lv_istore (lv' := [(4, .int x_6), (0, .ref h_this), (1, .ref h_a0), (2, .int p1), (3, .int i_2)]) hx hb dX0_weighPile_28 hl (by decide) rfl (fun ls hl => ?_)
      refine lv_iload hx hb dX0_weighPile_30 (lv_at hl 0 rfl) ?_
      refine lv_bipush (v := (-6 : Int32)) hx hb dX0_weighPile_32 (by decide) ?_
      refine lv_icmp_eq (tgt := 65) hx hb dX0_weighPile_34 (by decide) (fun c_ => ?_) (fun c_ => ?_)
      · replace vc := vc.1 c_
        obtain ⟨x_7, ex_7⟩ : ∃ y_ : Int32, y_ = (i_2 + (1 : Int32)) := ⟨_, rfl⟩
        replace vc := vc x_7 ex_7
        refine lv_iinc (v := x_7) (lv' := [(3, .int x_7), (4, .int x_6), (0, .ref h_this), (1, .ref h_a0), (2, .int p1)]) hx hb dX0_weighPile_65 hl (k := 4) rfl (by rw [ex_7]; rfl) (by decide) rfl (fun ls hl => ?_)
        refine lv_goto (tgt := 2) hx hb dX0_weighPile_68 (by decide) ?_
        obtain ⟨n1_, hlt_, hi_⟩ := vc
        exact ih_1 n1_ (x_7) hlt_ hi_ _ _ hP hD hS ls (lv_sub hl [2, 3, 4, 0] rfl)
      · replace vc := vc.2 c_
        refine lv_iload hx hb dX0_weighPile_37 (lv_at hl 0 rfl) ?_
        refine lv_aload_n hx hb dX0_weighPile_39 rfl (lv_at hl 2 rfl) ?_
        refine va_get (D := D) (ci := 1) (v := .ref h_a0_wool) (C := RX1) (T := TX1) (N := 6) hx hb hts mcX0_weighPile_X1 hown hK.1 hP 2 rfl rfl 3 (by decide) (hts _ mwX0_weighPile_2) (fun _ h9 => h9) rfl dX0_weighPile_40 ?_
        refine lv_iload_n hx hb dX0_weighPile_43 rfl (lv_at hl 4 rfl) ?_
        have hi_8 := vc.1
        replace vc := vc.2
        refine va_iald hx hb hK.1 hP 4 0 rfl rfl hi_8 dX0_weighPile_44 ?_
        refine lv_iconst (v := (5 : Int32)) hx hb dX0_weighPile_45 (by decide) ?_
        refine lv_idiv hx hb dX0_weighPile_46 (by decide) ?_
        refine lv_icmp_gt (tgt := 65) hx hb dX0_weighPile_47 (by decide) (fun c_ => ?_) (fun c_ => ?_)
        · replace vc := vc.1 c_
          obtain ⟨x_9, ex_9⟩ : ∃ y_ : Int32, y_ = (i_2 + (1 : Int32)) := ⟨_, rfl⟩
          replace vc := vc x_9 ex_9
          refine lv_iinc (v := x_9) (lv' := [(3, .int x_9), (4, .int x_6), (0, .ref h_this), (1, .ref h_a0), (2, .int p1)]) hx hb dX0_weighPile_65 hl (k := 4) rfl (by rw [ex_9]; rfl) (by decide) rfl (fun ls hl => ?_)
          refine lv_goto (tgt := 2) hx hb dX0_weighPile_68 (by decide) ?_
          obtain ⟨n1_, hlt_, hi_⟩ := vc
          exact ih_1 n1_ (x_9) hlt_ hi_ _ _ hP hD hS ls (lv_sub hl [2, 3, 4, 0] rfl)
        · replace vc := vc.2 c_
          refine lv_iload hx hb dX0_weighPile_50 (lv_at hl 0 rfl) ?_
          refine lv_iconst (v := (1 : Int32)) hx hb dX0_weighPile_52 (by decide) ?_
          refine lv_iadd hx hb dX0_weighPile_53 ?_
          refine lv_aload_n hx hb dX0_weighPile_54 rfl (lv_at hl 2 rfl) ?_
          refine va_get (D := D) (ci := 1) (v := .ref h_a0_stitches) (C := RX1) (T := TX1) (N := 6) hx hb hts mcX0_weighPile_X1 hown hK.1 hP 2 rfl rfl 4 (by decide) (hts _ mwX0_weighPile_3) (fun _ h9 => h9) rfl dX0_weighPile_55 ?_
          refine lv_iload_n hx hb dX0_weighPile_58 rfl (lv_at hl 4 rfl) ?_
          have hi_10 := vc.1
          replace vc := vc.2
          refine va_iald hx hb hK.1 hP 3 0 rfl rfl hi_10 dX0_weighPile_59 ?_
          refine kj0_i (rest := [.int (x_6 + (1 : Int32))]) (kS ⟨hx, hb, hml, hown, hts⟩ (kJ6_bitCount_0f7a4 _ (v_a0_stitches (i_2).toNatClampNeg) vc.1) (va_cwS 1 hts gX0_weighPile_J6_bitCount_0f7a4 rfl rfl rfl (by decide +kernel) ⟨(Nat.le_of_ble_eq_true rfl), (Nat.le_of_ble_eq_true rfl)⟩) hK rfl rfl hl.1 (Nat.le_of_ble_eq_true rfl) dX0_weighPile_60 ⟨(Nat.le_of_ble_eq_true rfl), (Nat.le_of_ble_eq_true rfl)⟩) hP hS hA (fun r_11 H locs hq_ hP hS => ?_)
          replace vc := vc.2 r_11 hq_
          have hP : va_P D vwCl [(h_this, .inr (0, [.int v_leastBorders, .int v_firstInRow, .ref h_this_between, .ref h_this_rowOf, .ref h_this_stitchesOf, .ref h_this_parishesOf, .ref h_this_weightOf])), (h_this_weightOf, .inl (cI, 1024, .inl v_weightOf)), (h_a0, .inr (1, [.int v_a0_there, .int v_a0_hair, .int v_a0_year, .ref h_a0_wool, .ref h_a0_stitches, .ref h_a0_place])), (h_a0_stitches, .inl (cI, 10, .inl v_a0_stitches)), (h_a0_wool, .inl (cI, 10, .inl v_a0_wool))] H := hP
          refine lv_iadd hx hb dX0_weighPile_63 ?_
          exact W.iret (v := ((x_6 + (1 : Int32)) + r_11)) hx hb hr (fun t ht hW => ⟨⟨((x_6 + (1 : Int32)) + r_11), (), rfl, vc, QB_mk (hP.sub [0, 1, 2, 3, 4] rfl) (hD.sub [0, 1, 2, 3, 4] rfl rfl) ht⟩, hS.F ht⟩) hS.2.2 dX0_weighPile_64

theorem mwX0_highestPile_1 : Cond.fieldLink RX0 27 "HassockSee$Diocese" "there" "I" ∈ wsX0_highestPile := List.mem_of_getElem? (i := 1) rfl
theorem mwX0_highestPile_2 : Cond.fieldLink RX0 24 "HassockSee$Arrangements" "weightOf" "[I" ∈ wsX0_highestPile := List.mem_of_getElem? (i := 2) rfl
theorem mcX0_highestPile_X0 : ∀ w ∈ u_ws RX0 TX0 7, w ∈ wsX0_highestPile := fun _ h => (List.mem_cons_of_mem _ (List.mem_append_right _ h))
theorem mcX0_highestPile_X1 : ∀ w ∈ u_ws RX1 TX1 6, w ∈ wsX0_highestPile := fun _ h => (List.mem_cons_of_mem _ (List.mem_append_left _ (List.mem_append_right _ h)))
def KX0_highestPile (l : Launch) (D : va_G) (cI cZ : ClassId) (P : (Nat → Int32) → Int32 → (Nat → Int32) → (Nat → Int32) → Prop) (Q : (Nat → Int32) → Int32 → (Nat → Int32) → (Nat → Int32) → Int32 → (Nat → Int32) → Prop) : Prop := ∀ (sz : Nat) (h_this h_a0 h_this_between h_this_rowOf h_this_stitchesOf h_this_parishesOf h_this_weightOf h_a0_wool h_a0_stitches h_a0_place : Nat) (v_leastBorders : Int32) (v_firstInRow : Int32) (v_weightOf : (Nat → Int32)) (v_a0_there : Int32) (v_a0_hair : Int32) (v_a0_year : Int32) (v_a0_stitches : (Nat → Int32)) (v_a0_wool : (Nat → Int32)), P v_weightOf v_a0_there v_a0_stitches v_a0_wool → MI l yX0_highestPile wsX0_highestPile ({ frames := 2, cells := 0, slots := 0, locals := 45 }) [.ref h_this, .ref h_a0] D cI cZ sz [(h_this, .inr (0, [.int v_leastBorders, .int v_firstInRow, .ref h_this_between, .ref h_this_rowOf, .ref h_this_stitchesOf, .ref h_this_parishesOf, .ref h_this_weightOf])), (h_this_weightOf, .inl (cI, 1024, .inl v_weightOf)), (h_a0, .inr (1, [.int v_a0_there, .int v_a0_hair, .int v_a0_year, .ref h_a0_wool, .ref h_a0_stitches, .ref h_a0_place])), (h_a0_stitches, .inl (cI, 10, .inl v_a0_stitches)), (h_a0_wool, .inl (cI, 10, .inl v_a0_wool))] (fun r (u : (Nat → Int32)) => Q v_weightOf v_a0_there v_a0_stitches v_a0_wool r u) (fun u => [(h_this, .inr (0, [.int v_leastBorders, .int v_firstInRow, .ref h_this_between, .ref h_this_rowOf, .ref h_this_stitchesOf, .ref h_this_parishesOf, .ref h_this_weightOf])), (h_this_weightOf, .inl (cI, 1024, .inl u)), (h_a0, .inr (1, [.int v_a0_there, .int v_a0_hair, .int v_a0_year, .ref h_a0_wool, .ref h_a0_stitches, .ref h_a0_place])), (h_a0_stitches, .inl (cI, 10, .inl v_a0_stitches)), (h_a0_wool, .inl (cI, 10, .inl v_a0_wool))]) 0 0
set_option maxHeartbeats 4000000 in
set_option maxRecDepth 100000 in
theorem walkX0_highestPile {l : Launch} {D : va_G} {cI cZ : ClassId} {PX0_highestPile : (Nat → Int32) → Int32 → (Nat → Int32) → (Nat → Int32) → Prop} {QX0_highestPile : (Nat → Int32) → Int32 → (Nat → Int32) → (Nat → Int32) → Int32 → (Nat → Int32) → Prop} {PX0_weighPile : Int32 → (Nat → Int32) → (Nat → Int32) → (Nat → Int32) → Prop} {QX0_weighPile : Int32 → (Nat → Int32) → (Nat → Int32) → (Nat → Int32) → Int32 → Prop} {PJ6_bitCount_0f7a4 : Int32 → Prop} {QJ6_bitCount_0f7a4 : Int32 → Int32 → Prop} (kX0_weighPile : KX0_weighPile l D cI cZ PX0_weighPile QX0_weighPile) (kJ6_bitCount_0f7a4 : KJ6_bitCount_0f7a4 l D cI cZ PJ6_bitCount_0f7a4 QJ6_bitCount_0f7a4) (IX0_highestPile_21 : (Nat → Int32) → Int32 → (Nat → Int32) → (Nat → Int32) → Nat → Int32 → Int32 → Int32 → (Nat → Int32) → Prop) (hvc : ∀ (v_weightOf : (Nat → Int32)) (v_a0_there : Int32) (v_a0_stitches : (Nat → Int32)) (v_a0_wool : (Nat → Int32)), PX0_highestPile v_weightOf v_a0_there v_a0_stitches v_a0_wool → (∀ x_1 : Int32, x_1 = (v_a0_there &&& (1023 : Int32)) → ((∃ n0 : Nat, IX0_highestPile_21 v_weightOf v_a0_there v_a0_stitches v_a0_wool n0 x_1 (0 : Int32) (1 : Int32) (upd v_weightOf ((0 : Int32)).toNatClampNeg (0 : Int32))) ∧ (∀ (n_2 : Nat) (i_3 : Int32) (f_4 : (Nat → Int32)) (i_5 : Int32), (IX0_highestPile_21 v_weightOf v_a0_there v_a0_stitches v_a0_wool n_2 x_1 i_5 i_3 f_4 → ((x_1 < i_3 → (QX0_highestPile v_weightOf v_a0_there v_a0_stitches v_a0_wool i_5 f_4)) ∧ (¬ x_1 < i_3 → ((¬ (i_3 &&& (x_1 ^^^ (-1 : Int32))) = 0 → (∀ x_6 : Int32, x_6 = (i_3 + (1 : Int32)) → (∃ n1 : Nat, n1 < n_2 ∧ IX0_highestPile_21 v_weightOf v_a0_there v_a0_stitches v_a0_wool n1 x_1 i_5 x_6 f_4))) ∧ ((i_3 &&& (x_1 ^^^ (-1 : Int32))) = 0 → (PX0_weighPile i_3 f_4 v_a0_stitches v_a0_wool ∧ (∀ (r_7 : Int32), QX0_weighPile i_3 f_4 v_a0_stitches v_a0_wool r_7  → (vp_in i_3 1024 ∧ (vp_in i_3 1024 ∧ ((((upd f_4 (i_3).toNatClampNeg r_7) (i_3).toNatClampNeg) = (-6 : Int32) → (∀ x_10 : Int32, x_10 = (i_3 + (1 : Int32)) → (∃ n1 : Nat, n1 < n_2 ∧ IX0_highestPile_21 v_weightOf v_a0_there v_a0_stitches v_a0_wool n1 x_1 i_5 x_10 (upd f_4 (i_3).toNatClampNeg r_7)))) ∧ (¬ ((upd f_4 (i_3).toNatClampNeg r_7) (i_3).toNatClampNeg) = (-6 : Int32) → (PJ6_bitCount_0f7a4 i_3 ∧ (∀ r_11 : Int32, QJ6_bitCount_0f7a4 i_3 r_11 → (PJ6_bitCount_0f7a4 i_5 ∧ (∀ r_12 : Int32, QJ6_bitCount_0f7a4 i_5 r_12 → ((r_11 ≤ r_12 → (∀ x_13 : Int32, x_13 = (i_3 + (1 : Int32)) → (∃ n1 : Nat, n1 < n_2 ∧ IX0_highestPile_21 v_weightOf v_a0_there v_a0_stitches v_a0_wool n1 x_1 i_5 x_13 (upd f_4 (i_3).toNatClampNeg r_7)))) ∧ (¬ r_11 ≤ r_12 → (∀ x_14 : Int32, x_14 = (i_3 + (1 : Int32)) → (∃ n1 : Nat, n1 < n_2 ∧ IX0_highestPile_21 v_weightOf v_a0_there v_a0_stitches v_a0_wool n1 x_1 i_3 x_14 (upd f_4 (i_3).toNatClampNeg r_7)))))))))))))))))))))))) : KX0_highestPile l D cI cZ PX0_highestPile QX0_highestPile := by
  intro sz h_this h_a0 h_this_between h_this_rowOf h_this_stitchesOf h_this_parishesOf h_this_weightOf h_a0_wool h_a0_stitches h_a0_place v_leastBorders v_firstInRow v_weightOf v_a0_there v_a0_hair v_a0_year v_a0_stitches v_a0_wool hpre
  have vc := hvc v_weightOf v_a0_there v_a0_stitches v_a0_wool hpre
  clear hvc
  refine Met.ofW (cc := cX0_highestPile) (maxL := 5) (ret := (some .int)) (by decide) rfl ?_
  intro p e s m args below meth c s₁ B hml hv
  obtain ⟨rfl, hsz, hP, hK, hD0⟩ := hv
  have hx := B.exec
  have hb := B.bytes
  have hr := B.returns
  have hts := atoms_spec (ws := wsX0_highestPile) B.pre
  have hown : s.vm.findClass RX0 = some m.cls := findClass_of_methodNamed B.named
  have hlocks := B.notSynchronized
  subst hsz
  have hD := hD0.self (sz := s.heap.size)
  generalize hAe : va_A [(h_this, .inr (0, [.int v_leastBorders, .int v_firstInRow, .ref h_this_between, .ref h_this_rowOf, .ref h_this_stitchesOf, .ref h_this_parishesOf, .ref h_this_weightOf])), (h_this_weightOf, .inl (cI, 1024, .inl v_weightOf)), (h_a0, .inr (1, [.int v_a0_there, .int v_a0_hair, .int v_a0_year, .ref h_a0_wool, .ref h_a0_stitches, .ref h_a0_place])), (h_a0_stitches, .inl (cI, 10, .inl v_a0_stitches)), (h_a0_wool, .inl (cI, 10, .inl v_a0_wool))] s.heap.size = A at hD ⊢
  have hA : ∀ q : Nat, s.heap.size ≤ q → A q := fun q h => by rw [← hAe]; exact Or.inr h
  have hS : va_S A s.heap s.heap [] := va_S.rf
  have hP : va_P D vwCl [(h_this, .inr (0, [.int v_leastBorders, .int v_firstInRow, .ref h_this_between, .ref h_this_rowOf, .ref h_this_stitchesOf, .ref h_this_parishesOf, .ref h_this_weightOf])), (h_this_weightOf, .inl (cI, 1024, .inl v_weightOf)), (h_a0, .inr (1, [.int v_a0_there, .int v_a0_hair, .int v_a0_year, .ref h_a0_wool, .ref h_a0_stitches, .ref h_a0_place])), (h_a0_stitches, .inl (cI, 10, .inl v_a0_stitches)), (h_a0_wool, .inl (cI, 10, .inl v_a0_wool))] s.heap := hP
  have hl := lv_entry ([.ref h_this, .ref h_a0]) (n := 5) (Nat.le_of_ble_eq_true rfl)
  rw [lg_entry_eq]
  generalize (lg_sl ([.ref h_this, .ref h_a0]) ++ List.replicate (5 - (lg_sl ([.ref h_this, .ref h_a0])).length) Slot.unset).toArray = ls at hl ⊢
  have hl : lv_has ls 5 [(0, .ref h_this), (1, .ref h_a0)] := hl
  refine lv_aload_n hx hb dX0_highestPile_0 rfl (lv_at hl 1 rfl) ?_
  refine va_get (D := D) (ci := 1) (v := .int v_a0_there) (C := RX1) (T := TX1) (N := 6) hx hb hts mcX0_highestPile_X1 hown hK.1 hP 2 rfl rfl 0 (by decide) (hts _ mwX0_highestPile_1) (fun _ h9 => h9) rfl dX0_highestPile_1 ?_
  refine lv_sipush (v := (1023 : Int32)) hx hb dX0_highestPile_4 (by decide) ?_
  refine lv_iand hx hb dX0_highestPile_7 ?_
  refine lv_topi (fun x_1 ex_1 => ?_)
  replace vc := vc x_1 ex_1
  refine lv_istore_n (lv' := [(2, .int x_1), (0, .ref h_this), (1, .ref h_a0)]) hx hb dX0_highestPile_8 rfl hl (by decide) rfl (fun ls hl => ?_)
  refine lv_iconst (v := (0 : Int32)) hx hb dX0_highestPile_9 (by decide) ?_
  refine lv_istore_n (lv' := [(3, .int (0 : Int32)), (2, .int x_1), (0, .ref h_this), (1, .ref h_a0)]) hx hb dX0_highestPile_10 rfl hl (by decide) rfl (fun ls hl => ?_)
  refine lv_aload_n hx hb dX0_highestPile_11 rfl (lv_at hl 2 rfl) ?_
  refine va_get (D := D) (ci := 0) (v := .ref h_this_weightOf) (C := RX0) (T := TX0) (N := 7) hx hb hts mcX0_highestPile_X0 hown hK.1 hP 0 rfl rfl 6 (by decide) (hts _ mwX0_highestPile_2) (fun _ h9 => h9) rfl dX0_highestPile_12 ?_
  refine lv_iconst (v := (0 : Int32)) hx hb dX0_highestPile_15 (by decide) ?_
  refine lv_iconst (v := (0 : Int32)) hx hb dX0_highestPile_16 (by decide) ?_
  refine va_iast hx hb hK.1 hP hD hS 1 0 rfl rfl (vpd (by decide)) dX0_highestPile_17 (fun H locs hP hD hS => ?_)
  have hP : va_P D vwCl [(h_this, .inr (0, [.int v_leastBorders, .int v_firstInRow, .ref h_this_between, .ref h_this_rowOf, .ref h_this_stitchesOf, .ref h_this_parishesOf, .ref h_this_weightOf])), (h_this_weightOf, .inl (cI, 1024, .inl (upd v_weightOf ((0 : Int32)).toNatClampNeg (0 : Int32)))), (h_a0, .inr (1, [.int v_a0_there, .int v_a0_hair, .int v_a0_year, .ref h_a0_wool, .ref h_a0_stitches, .ref h_a0_place])), (h_a0_stitches, .inl (cI, 10, .inl v_a0_stitches)), (h_a0_wool, .inl (cI, 10, .inl v_a0_wool))] H := hP
  have hD : va_D A [(h_this, .inr (0, [.int v_leastBorders, .int v_firstInRow, .ref h_this_between, .ref h_this_rowOf, .ref h_this_stitchesOf, .ref h_this_parishesOf, .ref h_this_weightOf])), (h_this_weightOf, .inl (cI, 1024, .inl (upd v_weightOf ((0 : Int32)).toNatClampNeg (0 : Int32)))), (h_a0, .inr (1, [.int v_a0_there, .int v_a0_hair, .int v_a0_year, .ref h_a0_wool, .ref h_a0_stitches, .ref h_a0_place])), (h_a0_stitches, .inl (cI, 10, .inl v_a0_stitches)), (h_a0_wool, .inl (cI, 10, .inl v_a0_wool))] := hD
  refine lv_iconst (v := (1 : Int32)) hx hb dX0_highestPile_18 (by decide) ?_
  refine lv_istore (lv' := [(4, .int (1 : Int32)), (3, .int (0 : Int32)), (2, .int x_1), (0, .ref h_this), (1, .ref h_a0)]) hx hb dX0_highestPile_19 hl (by decide) rfl (fun ls hl => ?_)
  obtain ⟨⟨n0_2, hi0_2⟩, vc⟩ := vc
  refine kloop (V := Int32 × (Nat → Int32) × Int32) (I := fun n v => IX0_highestPile_21 v_weightOf v_a0_there v_a0_stitches v_a0_wool n x_1 (v.2.2) (v.1) (v.2.1)) (wv := fun v => [(h_this, .inr (0, [.int v_leastBorders, .int v_firstInRow, .ref h_this_between, .ref h_this_rowOf, .ref h_this_stitchesOf, .ref h_this_parishesOf, .ref h_this_weightOf])), (h_this_weightOf, .inl (cI, 1024, .inl (v.2.1))), (h_a0, .inr (1, [.int v_a0_there, .int v_a0_hair, .int v_a0_year, .ref h_a0_wool, .ref h_a0_stitches, .ref h_a0_place])), (h_a0_stitches, .inl (cI, 10, .inl v_a0_stitches)), (h_a0_wool, .inl (cI, 10, .inl v_a0_wool))]) (lv := fun v => [(0, .ref h_this), (1, .ref h_a0), (2, .int x_1), (3, .int (v.2.2)), (4, .int (v.1))]) n0_2 ((1 : Int32), (upd v_weightOf ((0 : Int32)).toNatClampNeg (0 : Int32)), (0 : Int32)) hi0_2 hP hD hS (lv_sub hl [3, 4, 2, 1, 0] rfl) ?_
  intro n_2 v_2 hi_2 ih_2 H locs hP hD hS ls hl
  obtain ⟨i_3, f_4, i_5⟩ := v_2
  replace vc := vc n_2 i_3 f_4 i_5 hi_2
  have hP : va_P D vwCl [(h_this, .inr (0, [.int v_leastBorders, .int v_firstInRow, .ref h_this_between, .ref h_this_rowOf, .ref h_this_stitchesOf, .ref h_this_parishesOf, .ref h_this_weightOf])), (h_this_weightOf, .inl (cI, 1024, .inl f_4)), (h_a0, .inr (1, [.int v_a0_there, .int v_a0_hair, .int v_a0_year, .ref h_a0_wool, .ref h_a0_stitches, .ref h_a0_place])), (h_a0_stitches, .inl (cI, 10, .inl v_a0_stitches)), (h_a0_wool, .inl (cI, 10, .inl v_a0_wool))] H := hP
  have hD : va_D A [(h_this, .inr (0, [.int v_leastBorders, .int v_firstInRow, .ref h_this_between, .ref h_this_rowOf, .ref h_this_stitchesOf, .ref h_this_parishesOf, .ref h_this_weightOf])), (h_this_weightOf, .inl (cI, 1024, .inl f_4)), (h_a0, .inr (1, [.int v_a0_there, .int v_a0_hair, .int v_a0_year, .ref h_a0_wool, .ref h_a0_stitches, .ref h_a0_place])), (h_a0_stitches, .inl (cI, 10, .inl v_a0_stitches)), (h_a0_wool, .inl (cI, 10, .inl v_a0_wool))] := hD
  have hl : lv_has ls 5 [(0, .ref h_this), (1, .ref h_a0), (2, .int x_1), (3, .int i_5), (4, .int i_3)] := hl
  refine lv_iload hx hb dX0_highestPile_21 (lv_at hl 4 rfl) ?_
  refine lv_iload_n hx hb dX0_highestPile_23 rfl (lv_at hl 2 rfl) ?_
  refine lv_icmp_gt (tgt := 83) hx hb dX0_highestPile_24 (by decide) (fun c_ => ?_) (fun c_ => ?_)
  · replace vc := vc.1 c_
    refine lv_iload_n hx hb dX0_highestPile_83 rfl (lv_at hl 3 rfl) ?_
    exact W.iret (v := i_5) hx hb hr (fun t ht hW => ⟨⟨i_5, (f_4), rfl, vc, QB_mk (hP.sub [0, 1, 2, 3, 4] rfl) (hD.sub [0, 1, 2, 3, 4] rfl rfl) ht⟩, hS.F ht⟩) hS.2.2 dX0_highestPile_84
  · replace vc := vc.2 c_
    refine lv_iload hx hb dX0_highestPile_27 (lv_at hl 4 rfl) ?_
    refine lv_iload_n hx hb dX0_highestPile_29 rfl (lv_at hl 2 rfl) ?_
    refine lv_iconst (v := (-1 : Int32)) hx hb dX0_highestPile_30 (by decide) ?_
    refine lv_ixor hx hb dX0_highestPile_31 ?_
    refine lv_iand hx hb dX0_highestPile_32 ?_
    refine lv_if_ne (tgt := 77) hx hb dX0_highestPile_33 (by decide) (fun c_ => ?_) (fun c_ => ?_)
    · replace vc := vc.1 c_
      obtain ⟨x_6, ex_6⟩ : ∃ y_ : Int32, y_ = (i_3 + (1 : Int32)) := ⟨_, rfl⟩
      replace vc := vc x_6 ex_6
      refine lv_iinc (v := x_6) (lv' := [(4, .int x_6), (0, .ref h_this), (1, .ref h_a0), (2, .int x_1), (3, .int i_5)]) hx hb dX0_highestPile_77 hl (k := 4) rfl (by rw [ex_6]; rfl) (by decide) rfl (fun ls hl => ?_)
      refine lv_goto (tgt := 21) hx hb dX0_highestPile_80 (by decide) ?_
      obtain ⟨n1_, hlt_, hi_⟩ := vc
      exact ih_2 n1_ (x_6, f_4, i_5) hlt_ hi_ _ _ hP hD hS ls (lv_sub hl [1, 2, 3, 4, 0] rfl)
    · replace vc := vc.2 c_
      refine lv_aload_n hx hb dX0_highestPile_36 rfl (lv_at hl 0 rfl) ?_
      refine va_get (D := D) (ci := 0) (v := .ref h_this_weightOf) (C := RX0) (T := TX0) (N := 7) hx hb hts mcX0_highestPile_X0 hown hK.1 hP 0 rfl rfl 6 (by decide) (hts _ mwX0_highestPile_2) (fun _ h9 => h9) rfl dX0_highestPile_37 ?_
      refine lv_iload hx hb dX0_highestPile_40 (lv_at hl 4 rfl) ?_
      refine lv_aload_n hx hb dX0_highestPile_42 rfl (lv_at hl 0 rfl) ?_
      refine lv_aload_n hx hb dX0_highestPile_43 rfl (lv_at hl 1 rfl) ?_
      refine lv_iload hx hb dX0_highestPile_44 (lv_at hl 4 rfl) ?_
      refine kj_i (wr := []) (rest := [.int i_3, .ref h_this_weightOf]) (kV ⟨hx, hb, hml, hown, hts⟩ (kX0_weighPile _ h_this h_a0 h_this_between h_this_rowOf h_this_stitchesOf h_this_parishesOf h_this_weightOf h_a0_wool h_a0_stitches h_a0_place i_3 v_leastBorders v_firstInRow f_4 v_a0_there v_a0_hair v_a0_year v_a0_stitches v_a0_wool vc.1) (cwV 2 hts gX0_highestPile_X0_weighPile rfl rfl rfl (by decide +kernel) ⟨(Nat.le_of_ble_eq_true rfl), (Nat.le_of_ble_eq_true rfl)⟩) hK hP hD [0, 1, 2, 3, 4] rfl rfl 0 0 rfl rfl rfl rfl rfl hl.1 (Nat.le_of_ble_eq_true rfl) dX0_highestPile_46 ⟨(Nat.le_of_ble_eq_true rfl), (Nat.le_of_ble_eq_true rfl)⟩) hP hD hS hA [0, 1, 2, 3, 4] [] rfl rfl rfl rfl (fun r_7 u_ H locs hq_ hP hD hS => ?_)
      replace vc := vc.2 r_7  hq_
      have hP : va_P D vwCl [(h_this, .inr (0, [.int v_leastBorders, .int v_firstInRow, .ref h_this_between, .ref h_this_rowOf, .ref h_this_stitchesOf, .ref h_this_parishesOf, .ref h_this_weightOf])), (h_this_weightOf, .inl (cI, 1024, .inl f_4)), (h_a0, .inr (1, [.int v_a0_there, .int v_a0_hair, .int v_a0_year, .ref h_a0_wool, .ref h_a0_stitches, .ref h_a0_place])), (h_a0_stitches, .inl (cI, 10, .inl v_a0_stitches)), (h_a0_wool, .inl (cI, 10, .inl v_a0_wool))] H := hP
      have hD : va_D A [(h_this, .inr (0, [.int v_leastBorders, .int v_firstInRow, .ref h_this_between, .ref h_this_rowOf, .ref h_this_stitchesOf, .ref h_this_parishesOf, .ref h_this_weightOf])), (h_this_weightOf, .inl (cI, 1024, .inl f_4)), (h_a0, .inr (1, [.int v_a0_there, .int v_a0_hair, .int v_a0_year, .ref h_a0_wool, .ref h_a0_stitches, .ref h_a0_place])), (h_a0_stitches, .inl (cI, 10, .inl v_a0_stitches)), (h_a0_wool, .inl (cI, 10, .inl v_a0_wool))] := hD
      have hi_8 := vc.1
      replace vc := vc.2
      refine va_iast hx hb hK.1 hP hD hS 1 0 rfl rfl hi_8 dX0_highestPile_49 (fun H locs hP hD hS => ?_)
      have hP : va_P D vwCl [(h_this, .inr (0, [.int v_leastBorders, .int v_firstInRow, .ref h_this_between, .ref h_this_rowOf, .ref h_this_stitchesOf, .ref h_this_parishesOf, .ref h_this_weightOf])), (h_this_weightOf, .inl (cI, 1024, .inl (upd f_4 (i_3).toNatClampNeg r_7))), (h_a0, .inr (1, [.int v_a0_there, .int v_a0_hair, .int v_a0_year, .ref h_a0_wool, .ref h_a0_stitches, .ref h_a0_place])), (h_a0_stitches, .inl (cI, 10, .inl v_a0_stitches)), (h_a0_wool, .inl (cI, 10, .inl v_a0_wool))] H := hP
      have hD : va_D A [(h_this, .inr (0, [.int v_leastBorders, .int v_firstInRow, .ref h_this_between, .ref h_this_rowOf, .ref h_this_stitchesOf, .ref h_this_parishesOf, .ref h_this_weightOf])), (h_this_weightOf, .inl (cI, 1024, .inl (upd f_4 (i_3).toNatClampNeg r_7))), (h_a0, .inr (1, [.int v_a0_there, .int v_a0_hair, .int v_a0_year, .ref h_a0_wool, .ref h_a0_stitches, .ref h_a0_place])), (h_a0_stitches, .inl (cI, 10, .inl v_a0_stitches)), (h_a0_wool, .inl (cI, 10, .inl v_a0_wool))] := hD
      refine lv_aload_n hx hb dX0_highestPile_50 rfl (lv_at hl 0 rfl) ?_
      refine va_get (D := D) (ci := 0) (v := .ref h_this_weightOf) (C := RX0) (T := TX0) (N := 7) hx hb hts mcX0_highestPile_X0 hown hK.1 hP 0 rfl rfl 6 (by decide) (hts _ mwX0_highestPile_2) (fun _ h9 => h9) rfl dX0_highestPile_51 ?_
      refine lv_iload hx hb dX0_highestPile_54 (lv_at hl 4 rfl) ?_
      have hi_9 := vc.1
      replace vc := vc.2
      refine va_iald hx hb hK.1 hP 1 0 rfl rfl hi_9 dX0_highestPile_56 ?_
      refine lv_bipush (v := (-6 : Int32)) hx hb dX0_highestPile_57 (by decide) ?_
      refine lv_icmp_eq (tgt := 77) hx hb dX0_highestPile_59 (by decide) (fun c_ => ?_) (fun c_ => ?_)
      · replace vc := vc.1 c_
        obtain ⟨x_10, ex_10⟩ : ∃ y_ : Int32, y_ = (i_3 + (1 : Int32)) := ⟨_, rfl⟩
        replace vc := vc x_10 ex_10
        refine lv_iinc (v := x_10) (lv' := [(4, .int x_10), (0, .ref h_this), (1, .ref h_a0), (2, .int x_1), (3, .int i_5)]) hx hb dX0_highestPile_77 hl (k := 4) rfl (by rw [ex_10]; rfl) (by decide) rfl (fun ls hl => ?_)
        refine lv_goto (tgt := 21) hx hb dX0_highestPile_80 (by decide) ?_
        obtain ⟨n1_, hlt_, hi_⟩ := vc
        exact ih_2 n1_ (x_10, (upd f_4 (i_3).toNatClampNeg r_7), i_5) hlt_ hi_ _ _ hP hD hS ls (lv_sub hl [1, 2, 3, 4, 0] rfl)
      · replace vc := vc.2 c_
        refine lv_iload hx hb dX0_highestPile_62 (lv_at hl 4 rfl) ?_
        refine kj0_i (rest := []) (kS ⟨hx, hb, hml, hown, hts⟩ (kJ6_bitCount_0f7a4 _ i_3 vc.1) (va_cwS 1 hts gX0_highestPile_J6_bitCount_0f7a4 rfl rfl rfl (by decide +kernel) ⟨(Nat.le_of_ble_eq_true rfl), (Nat.le_of_ble_eq_true rfl)⟩) hK rfl rfl hl.1 (Nat.le_of_ble_eq_true rfl) dX0_highestPile_64 ⟨(Nat.le_of_ble_eq_true rfl), (Nat.le_of_ble_eq_true rfl)⟩) hP hS hA (fun r_11 H locs hq_ hP hS => ?_)
        replace vc := vc.2 r_11 hq_
        have hP : va_P D vwCl [(h_this, .inr (0, [.int v_leastBorders, .int v_firstInRow, .ref h_this_between, .ref h_this_rowOf, .ref h_this_stitchesOf, .ref h_this_parishesOf, .ref h_this_weightOf])), (h_this_weightOf, .inl (cI, 1024, .inl (upd f_4 (i_3).toNatClampNeg r_7))), (h_a0, .inr (1, [.int v_a0_there, .int v_a0_hair, .int v_a0_year, .ref h_a0_wool, .ref h_a0_stitches, .ref h_a0_place])), (h_a0_stitches, .inl (cI, 10, .inl v_a0_stitches)), (h_a0_wool, .inl (cI, 10, .inl v_a0_wool))] H := hP
        refine lv_iload_n hx hb dX0_highestPile_67 rfl (lv_at hl 3 rfl) ?_
        refine kj0_i (rest := [.int r_11]) (kS ⟨hx, hb, hml, hown, hts⟩ (kJ6_bitCount_0f7a4 _ i_5 vc.1) (va_cwS 1 hts gX0_highestPile_J6_bitCount_0f7a4 rfl rfl rfl (by decide +kernel) ⟨(Nat.le_of_ble_eq_true rfl), (Nat.le_of_ble_eq_true rfl)⟩) hK rfl rfl hl.1 (Nat.le_of_ble_eq_true rfl) dX0_highestPile_68 ⟨(Nat.le_of_ble_eq_true rfl), (Nat.le_of_ble_eq_true rfl)⟩) hP hS hA (fun r_12 H locs hq_ hP hS => ?_)
        replace vc := vc.2 r_12 hq_
        have hP : va_P D vwCl [(h_this, .inr (0, [.int v_leastBorders, .int v_firstInRow, .ref h_this_between, .ref h_this_rowOf, .ref h_this_stitchesOf, .ref h_this_parishesOf, .ref h_this_weightOf])), (h_this_weightOf, .inl (cI, 1024, .inl (upd f_4 (i_3).toNatClampNeg r_7))), (h_a0, .inr (1, [.int v_a0_there, .int v_a0_hair, .int v_a0_year, .ref h_a0_wool, .ref h_a0_stitches, .ref h_a0_place])), (h_a0_stitches, .inl (cI, 10, .inl v_a0_stitches)), (h_a0_wool, .inl (cI, 10, .inl v_a0_wool))] H := hP
        refine lv_icmp_le (tgt := 77) hx hb dX0_highestPile_71 (by decide) (fun c_ => ?_) (fun c_ => ?_)
        · replace vc := vc.1 c_
          obtain ⟨x_13, ex_13⟩ : ∃ y_ : Int32, y_ = (i_3 + (1 : Int32)) := ⟨_, rfl⟩
          replace vc := vc x_13 ex_13
          refine lv_iinc (v := x_13) (lv' := [(4, .int x_13), (0, .ref h_this), (1, .ref h_a0), (2, .int x_1), (3, .int i_5)]) hx hb dX0_highestPile_77 hl (k := 4) rfl (by rw [ex_13]; rfl) (by decide) rfl (fun ls hl => ?_)
          refine lv_goto (tgt := 21) hx hb dX0_highestPile_80 (by decide) ?_
          obtain ⟨n1_, hlt_, hi_⟩ := vc
          exact ih_2 n1_ (x_13, (upd f_4 (i_3).toNatClampNeg r_7), i_5) hlt_ hi_ _ _ hP hD hS ls (lv_sub hl [1, 2, 3, 4, 0] rfl)
        · replace vc := vc.2 c_
          refine lv_iload hx hb dX0_highestPile_74 (lv_at hl 4 rfl) ?_
          refine lv_istore_n (lv' := [(3, .int i_3), (0, .ref h_this), (1, .ref h_a0), (2, .int x_1), (4, .int i_3)]) hx hb dX0_highestPile_76 rfl hl (by decide) rfl (fun ls hl => ?_)
          obtain ⟨x_14, ex_14⟩ : ∃ y_ : Int32, y_ = (i_3 + (1 : Int32)) := ⟨_, rfl⟩
          replace vc := vc x_14 ex_14
          refine lv_iinc (v := x_14) (lv' := [(4, .int x_14), (3, .int i_3), (0, .ref h_this), (1, .ref h_a0), (2, .int x_1)]) hx hb dX0_highestPile_77 hl (k := 4) rfl (by rw [ex_14]; rfl) (by decide) rfl (fun ls hl => ?_)
          refine lv_goto (tgt := 21) hx hb dX0_highestPile_80 (by decide) ?_
          obtain ⟨n1_, hlt_, hi_⟩ := vc
          exact ih_2 n1_ (x_14, (upd f_4 (i_3).toNatClampNeg r_7), i_3) hlt_ hi_ _ _ hP hD hS ls (lv_sub hl [2, 3, 4, 1, 0] rfl)

theorem mwX1_init_1 : Cond.methodLink RX1 3 objectInit ∈ wsX1_init := List.mem_of_getElem? (i := 1) rfl
theorem mwX1_init_2 : Cond.instanceMethod objectInit ∈ wsX1_init := List.mem_of_getElem? (i := 2) rfl
theorem mwX1_init_3 : Cond.code objectInit ⟨#[0xb1]⟩ 1 none ∈ wsX1_init := List.mem_of_getElem? (i := 3) rfl
theorem mwX1_init_4 : Cond.fieldLink RX1 9 "HassockSee$Diocese" "there" "I" ∈ wsX1_init := List.mem_of_getElem? (i := 4) rfl
theorem mwX1_init_5 : Cond.fieldLink RX1 15 "HassockSee$Diocese" "hair" "I" ∈ wsX1_init := List.mem_of_getElem? (i := 5) rfl
theorem mwX1_init_6 : Cond.fieldLink RX1 18 "HassockSee$Diocese" "year" "I" ∈ wsX1_init := List.mem_of_getElem? (i := 6) rfl
theorem mwX1_init_7 : Cond.arrayClass .int ∈ wsX1_init := List.mem_of_getElem? (i := 7) rfl
theorem mwX1_init_8 : Cond.fieldLink RX1 21 "HassockSee$Diocese" "wool" "[I" ∈ wsX1_init := List.mem_of_getElem? (i := 8) rfl
theorem mwX1_init_9 : Cond.fieldLink RX1 25 "HassockSee$Diocese" "stitches" "[I" ∈ wsX1_init := List.mem_of_getElem? (i := 9) rfl
theorem mwX1_init_10 : Cond.fieldLink RX1 28 "HassockSee$Diocese" "place" "[I" ∈ wsX1_init := List.mem_of_getElem? (i := 10) rfl
theorem mcX1_init_X1 : ∀ w ∈ u_ws RX1 TX1 6, w ∈ wsX1_init := fun _ h => (List.mem_cons_of_mem _ (List.mem_append_right _ h))
def KX1_init (l : Launch) (D : va_G) (cI cZ : ClassId) (Q : Int32 → Int32 → Int32 → (Nat → Int32) → (Nat → Int32) → (Nat → Int32) → Prop) : Prop := ∀ (sz : Nat) (h_this : Nat), MV l yX1_init wsX1_init ({ frames := 1, cells := 3, slots := 30, locals := 30 }) [.ref h_this] D cI cZ sz [(h_this, .inr (1, [.int 0, .int 0, .int 0, .null, .null, .null]))] (fun (u : Nat × Nat × Nat × Int32 × Int32 × Int32 × (Nat → Int32) × (Nat → Int32) × (Nat → Int32)) => Q  (u.2.2.2.1) (u.2.2.2.2.1) (u.2.2.2.2.2.1) (u.2.2.2.2.2.2.1) (u.2.2.2.2.2.2.2.1) (u.2.2.2.2.2.2.2.2)) (fun u => [(h_this, .inr (1, [.int (u.2.2.2.1), .int (u.2.2.2.2.1), .int (u.2.2.2.2.2.1), .ref (u.1), .ref (u.2.1), .ref (u.2.2.1)])), ((u.1), .inl (cI, 10, .inl (u.2.2.2.2.2.2.1))), ((u.2.1), .inl (cI, 10, .inl (u.2.2.2.2.2.2.2.1))), ((u.2.2.1), .inl (cI, 10, .inl (u.2.2.2.2.2.2.2.2)))]) 3 30
set_option maxHeartbeats 4000000 in
set_option maxRecDepth 100000 in
theorem walkX1_init {l : Launch} {D : va_G} {cI cZ : ClassId} {QX1_init : Int32 → Int32 → Int32 → (Nat → Int32) → (Nat → Int32) → (Nat → Int32) → Prop} (IX1_init_48 : Nat → Int32 → Int32 → Int32 → Int32 → (Nat → Int32) → (Nat → Int32) → (Nat → Int32) → Prop) (hvc : ((∃ n0 : Nat, IX1_init_48  n0 (0 : Int32) (1023 : Int32) (20 : Int32) (0 : Int32) (fun _ => 0) (fun _ => 0) (fun _ => 0)) ∧ (∀ (n_1 : Nat) (i_2 : Int32) (f_3 : (Nat → Int32)) (f_4 : (Nat → Int32)), (IX1_init_48  n_1 i_2 (1023 : Int32) (20 : Int32) (0 : Int32) f_3 (fun _ => 0) f_4 → (((10 : Int32) ≤ i_2 → QX1_init (1023 : Int32) (20 : Int32) (0 : Int32) f_3 (fun _ => 0) f_4) ∧ (¬ (10 : Int32) ≤ i_2 → (vp_in i_2 10 ∧ (vp_in i_2 10 ∧ (∀ x_7 : Int32, x_7 = (i_2 + (1 : Int32)) → (∃ n1 : Nat, n1 < n_1 ∧ IX1_init_48  n1 x_7 (1023 : Int32) (20 : Int32) (0 : Int32) (upd f_3 (i_2).toNatClampNeg (50 : Int32)) (fun _ => 0) (upd f_4 (i_2).toNatClampNeg i_2))))))))))) : KX1_init l D cI cZ QX1_init := by
  intro sz h_this 
  have vc := hvc
  clear hvc
  refine Met.ofW (cc := cX1_init) (maxL := 2) (ret := none) (by decide) rfl ?_
  intro p e s m args below meth c s₁ B hml hv
  obtain ⟨rfl, hsz, hP, hK, hD0⟩ := hv
  have hx := B.exec
  have hb := B.bytes
  have hr := B.returns
  have hts := atoms_spec (ws := wsX1_init) B.pre
  have hown : s.vm.findClass RX1 = some m.cls := findClass_of_methodNamed B.named
  have hlocks := B.notSynchronized
  have hin : meth.name = "<init>" := (name_of_methodNamed B.named B.method).1
  subst hsz
  have hD := hD0.self (sz := s.heap.size)
  generalize hAe : va_A [(h_this, .inr (1, [.int 0, .int 0, .int 0, .null, .null, .null]))] s.heap.size = A at hD ⊢
  have hA : ∀ q : Nat, s.heap.size ≤ q → A q := fun q h => by rw [← hAe]; exact Or.inr h
  have hS : va_S A s.heap s.heap [] := va_S.rf
  have hP : va_P D vwCl [(h_this, .inr (1, [.int 0, .int 0, .int 0, .null, .null, .null]))] s.heap := hP
  have hl := lv_entry ([.ref h_this]) (n := 2) (Nat.le_of_ble_eq_true rfl)
  rw [lg_entry_eq]
  generalize (lg_sl ([.ref h_this]) ++ List.replicate (2 - (lg_sl ([.ref h_this])).length) Slot.unset).toArray = ls at hl ⊢
  have hl : lv_has ls 2 [(0, .ref h_this)] := hl
  refine lv_aload_n hx hb dX1_init_0 rfl (lv_at hl 0 rfl) ?_
  refine W.objInit hx hb hown (hts _ mwX1_init_1) (hts _ mwX1_init_2) (hts _ mwX1_init_3) rfl (by rw [hml]; exact hl.1) rfl dX1_init_1 (Nat.le_of_ble_eq_true rfl) (Nat.le_of_ble_eq_true rfl) ?_
  refine W.eq (g2 := F0 m 4 ls []) rfl ?_
  refine lv_aload_n hx hb dX1_init_4 rfl (lv_at hl 0 rfl) ?_
  refine lv_sipush (v := (1023 : Int32)) hx hb dX1_init_5 (by decide) ?_
  refine va_put (D := D) (ci := 1) (v := .int (1023 : Int32)) (ty := .int) (C := RX1) (T := TX1) (N := 6) hx hb hts mcX1_init_X1 tyX1 tyX1_ok nmX1 hown hK.1 hP hD hS 0 rfl rfl 0 (by decide) (hts _ mwX1_init_4) (fun _ h9 => h9) rfl (by decide +kernel) rfl rfl (Nat.le_of_ble_eq_true rfl) dX1_init_8 (fun H locs hP hD hS => ?_)
  have hP : va_P D vwCl [(h_this, .inr (1, [.int (1023 : Int32), .int 0, .int 0, .null, .null, .null]))] H := hP
  have hD : va_D A [(h_this, .inr (1, [.int (1023 : Int32), .int 0, .int 0, .null, .null, .null]))] := hD
  refine lv_aload_n hx hb dX1_init_11 rfl (lv_at hl 0 rfl) ?_
  refine lv_bipush (v := (20 : Int32)) hx hb dX1_init_12 (by decide) ?_
  refine va_put (D := D) (ci := 1) (v := .int (20 : Int32)) (ty := .int) (C := RX1) (T := TX1) (N := 6) hx hb hts mcX1_init_X1 tyX1 tyX1_ok nmX1 hown hK.1 hP hD hS 0 rfl rfl 1 (by decide) (hts _ mwX1_init_5) (fun _ h9 => h9) rfl (by decide +kernel) rfl rfl (Nat.le_of_ble_eq_true rfl) dX1_init_14 (fun H locs hP hD hS => ?_)
  have hP : va_P D vwCl [(h_this, .inr (1, [.int (1023 : Int32), .int (20 : Int32), .int 0, .null, .null, .null]))] H := hP
  have hD : va_D A [(h_this, .inr (1, [.int (1023 : Int32), .int (20 : Int32), .int 0, .null, .null, .null]))] := hD
  refine lv_aload_n hx hb dX1_init_17 rfl (lv_at hl 0 rfl) ?_
  refine lv_iconst (v := (0 : Int32)) hx hb dX1_init_18 (by decide) ?_
  refine va_put (D := D) (ci := 1) (v := .int (0 : Int32)) (ty := .int) (C := RX1) (T := TX1) (N := 6) hx hb hts mcX1_init_X1 tyX1 tyX1_ok nmX1 hown hK.1 hP hD hS 0 rfl rfl 2 (by decide) (hts _ mwX1_init_6) (fun _ h9 => h9) rfl (by decide +kernel) rfl rfl (Nat.le_of_ble_eq_true rfl) dX1_init_19 (fun H locs hP hD hS => ?_)
  have hP : va_P D vwCl [(h_this, .inr (1, [.int (1023 : Int32), .int (20 : Int32), .int (0 : Int32), .null, .null, .null]))] H := hP
  have hD : va_D A [(h_this, .inr (1, [.int (1023 : Int32), .int (20 : Int32), .int (0 : Int32), .null, .null, .null]))] := hD
  refine lv_aload_n hx hb dX1_init_22 rfl (lv_at hl 0 rfl) ?_
  refine lv_bipush (v := (10 : Int32)) hx hb dX1_init_23 (by decide) ?_
  refine va_newa (atype := .int) (ty := .int) (N' := 10) (a0 := (10, .inl (fun _ => 0))) hx hb (hts _ mwX1_init_7) rfl hK.1 hP hD hS hA (fun _ => rfl) (by decide) (by decide) (Nat.le_of_ble_eq_true rfl) (Nat.le_of_ble_eq_true rfl) (Nat.le_of_ble_eq_true rfl) dX1_init_25 (fun q25 cA_ H hK_ hP hD hS => ?_)
  have ecA_ : cI = cA_ := Option.some.inj ((hK.1.2 0 _ rfl).2.symm.trans (hK_.2 2 _ rfl).2)
  subst ecA_
  have hP : va_P D vwCl [(h_this, .inr (1, [.int (1023 : Int32), .int (20 : Int32), .int (0 : Int32), .null, .null, .null])), (q25, .inl (cI, 10, .inl (fun _ => 0)))] H := hP
  have hD : va_D A [(h_this, .inr (1, [.int (1023 : Int32), .int (20 : Int32), .int (0 : Int32), .null, .null, .null])), (q25, .inl (cI, 10, .inl (fun _ => 0)))] := hD
  refine W.widen (k := 1) (n := 10) (Nat.le_of_ble_eq_true rfl) (Nat.le_of_ble_eq_true rfl) ?_
  refine va_putF (D := D) (ci := 1) (v := .ref q25) (ty := .array .int) (C := RX1) (T := TX1) (N := 6) hx hb hts mcX1_init_X1 tyX1 tyX1_ok nmX1 hown hK.1 hP hD hS 0 rfl rfl 3 (by decide) (hts _ mwX1_init_8) (fun _ h9 => h9) rfl hin rfl (by decide +kernel) rfl rfl (Nat.le_of_ble_eq_true rfl) dX1_init_27 (fun H locs hP hD hS => ?_)
  have hP : va_P D vwCl [(h_this, .inr (1, [.int (1023 : Int32), .int (20 : Int32), .int (0 : Int32), .ref q25, .null, .null])), (q25, .inl (cI, 10, .inl (fun _ => 0)))] H := hP
  have hD : va_D A [(h_this, .inr (1, [.int (1023 : Int32), .int (20 : Int32), .int (0 : Int32), .ref q25, .null, .null])), (q25, .inl (cI, 10, .inl (fun _ => 0)))] := hD
  refine lv_aload_n hx hb dX1_init_30 rfl (lv_at hl 0 rfl) ?_
  refine lv_bipush (v := (10 : Int32)) hx hb dX1_init_31 (by decide) ?_
  refine va_newa (atype := .int) (ty := .int) (N' := 10) (a0 := (10, .inl (fun _ => 0))) hx hb (hts _ mwX1_init_7) rfl hK.1 hP hD hS hA (fun _ => rfl) (by decide) (by decide) (Nat.le_of_ble_eq_true rfl) (Nat.le_of_ble_eq_true rfl) (Nat.le_of_ble_eq_true rfl) dX1_init_33 (fun q33 cA_ H hK_ hP hD hS => ?_)
  have ecA_ : cI = cA_ := Option.some.inj ((hK.1.2 0 _ rfl).2.symm.trans (hK_.2 2 _ rfl).2)
  subst ecA_
  have hP : va_P D vwCl [(h_this, .inr (1, [.int (1023 : Int32), .int (20 : Int32), .int (0 : Int32), .ref q25, .null, .null])), (q25, .inl (cI, 10, .inl (fun _ => 0))), (q33, .inl (cI, 10, .inl (fun _ => 0)))] H := hP
  have hD : va_D A [(h_this, .inr (1, [.int (1023 : Int32), .int (20 : Int32), .int (0 : Int32), .ref q25, .null, .null])), (q25, .inl (cI, 10, .inl (fun _ => 0))), (q33, .inl (cI, 10, .inl (fun _ => 0)))] := hD
  refine W.widen (k := 2) (n := 20) (Nat.le_of_ble_eq_true rfl) (Nat.le_of_ble_eq_true rfl) ?_
  refine va_putF (D := D) (ci := 1) (v := .ref q33) (ty := .array .int) (C := RX1) (T := TX1) (N := 6) hx hb hts mcX1_init_X1 tyX1 tyX1_ok nmX1 hown hK.1 hP hD hS 0 rfl rfl 4 (by decide) (hts _ mwX1_init_9) (fun _ h9 => h9) rfl hin rfl (by decide +kernel) rfl rfl (Nat.le_of_ble_eq_true rfl) dX1_init_35 (fun H locs hP hD hS => ?_)
  have hP : va_P D vwCl [(h_this, .inr (1, [.int (1023 : Int32), .int (20 : Int32), .int (0 : Int32), .ref q25, .ref q33, .null])), (q25, .inl (cI, 10, .inl (fun _ => 0))), (q33, .inl (cI, 10, .inl (fun _ => 0)))] H := hP
  have hD : va_D A [(h_this, .inr (1, [.int (1023 : Int32), .int (20 : Int32), .int (0 : Int32), .ref q25, .ref q33, .null])), (q25, .inl (cI, 10, .inl (fun _ => 0))), (q33, .inl (cI, 10, .inl (fun _ => 0)))] := hD
  refine lv_aload_n hx hb dX1_init_38 rfl (lv_at hl 0 rfl) ?_
  refine lv_bipush (v := (10 : Int32)) hx hb dX1_init_39 (by decide) ?_
  refine va_newa (atype := .int) (ty := .int) (N' := 10) (a0 := (10, .inl (fun _ => 0))) hx hb (hts _ mwX1_init_7) rfl hK.1 hP hD hS hA (fun _ => rfl) (by decide) (by decide) (Nat.le_of_ble_eq_true rfl) (Nat.le_of_ble_eq_true rfl) (Nat.le_of_ble_eq_true rfl) dX1_init_41 (fun q41 cA_ H hK_ hP hD hS => ?_)
  have ecA_ : cI = cA_ := Option.some.inj ((hK.1.2 0 _ rfl).2.symm.trans (hK_.2 2 _ rfl).2)
  subst ecA_
  have hP : va_P D vwCl [(h_this, .inr (1, [.int (1023 : Int32), .int (20 : Int32), .int (0 : Int32), .ref q25, .ref q33, .null])), (q25, .inl (cI, 10, .inl (fun _ => 0))), (q33, .inl (cI, 10, .inl (fun _ => 0))), (q41, .inl (cI, 10, .inl (fun _ => 0)))] H := hP
  have hD : va_D A [(h_this, .inr (1, [.int (1023 : Int32), .int (20 : Int32), .int (0 : Int32), .ref q25, .ref q33, .null])), (q25, .inl (cI, 10, .inl (fun _ => 0))), (q33, .inl (cI, 10, .inl (fun _ => 0))), (q41, .inl (cI, 10, .inl (fun _ => 0)))] := hD
  refine W.widen (k := 3) (n := 30) (Nat.le_of_ble_eq_true rfl) (Nat.le_of_ble_eq_true rfl) ?_
  refine va_putF (D := D) (ci := 1) (v := .ref q41) (ty := .array .int) (C := RX1) (T := TX1) (N := 6) hx hb hts mcX1_init_X1 tyX1 tyX1_ok nmX1 hown hK.1 hP hD hS 0 rfl rfl 5 (by decide) (hts _ mwX1_init_10) (fun _ h9 => h9) rfl hin rfl (by decide +kernel) rfl rfl (Nat.le_of_ble_eq_true rfl) dX1_init_43 (fun H locs hP hD hS => ?_)
  have hP : va_P D vwCl [(h_this, .inr (1, [.int (1023 : Int32), .int (20 : Int32), .int (0 : Int32), .ref q25, .ref q33, .ref q41])), (q25, .inl (cI, 10, .inl (fun _ => 0))), (q33, .inl (cI, 10, .inl (fun _ => 0))), (q41, .inl (cI, 10, .inl (fun _ => 0)))] H := hP
  have hD : va_D A [(h_this, .inr (1, [.int (1023 : Int32), .int (20 : Int32), .int (0 : Int32), .ref q25, .ref q33, .ref q41])), (q25, .inl (cI, 10, .inl (fun _ => 0))), (q33, .inl (cI, 10, .inl (fun _ => 0))), (q41, .inl (cI, 10, .inl (fun _ => 0)))] := hD
  refine lv_iconst (v := (0 : Int32)) hx hb dX1_init_46 (by decide) ?_
  refine lv_istore_n (lv' := [(1, .int (0 : Int32)), (0, .ref h_this)]) hx hb dX1_init_47 rfl hl (by decide) rfl (fun ls hl => ?_)
  obtain ⟨⟨n0_1, hi0_1⟩, vc⟩ := vc
  refine kloop (V := Int32 × (Nat → Int32) × (Nat → Int32)) (I := fun n v => IX1_init_48  n (v.1) (1023 : Int32) (20 : Int32) (0 : Int32) (v.2.1) (fun _ => 0) (v.2.2)) (wv := fun v => [(h_this, .inr (1, [.int (1023 : Int32), .int (20 : Int32), .int (0 : Int32), .ref q25, .ref q33, .ref q41])), (q25, .inl (cI, 10, .inl (v.2.1))), (q33, .inl (cI, 10, .inl (fun _ => 0))), (q41, .inl (cI, 10, .inl (v.2.2)))]) (lv := fun v => [(0, .ref h_this), (1, .int (v.1))]) n0_1 ((0 : Int32), (fun _ => 0), (fun _ => 0)) hi0_1 hP hD hS (lv_sub hl [1, 0] rfl) ?_
  intro n_1 v_1 hi_1 ih_1 H locs hP hD hS ls hl
  obtain ⟨i_2, f_3, f_4⟩ := v_1
  replace vc := vc n_1 i_2 f_3 f_4 hi_1
  have hP : va_P D vwCl [(h_this, .inr (1, [.int (1023 : Int32), .int (20 : Int32), .int (0 : Int32), .ref q25, .ref q33, .ref q41])), (q25, .inl (cI, 10, .inl f_3)), (q33, .inl (cI, 10, .inl (fun _ => 0))), (q41, .inl (cI, 10, .inl f_4))] H := hP
  have hD : va_D A [(h_this, .inr (1, [.int (1023 : Int32), .int (20 : Int32), .int (0 : Int32), .ref q25, .ref q33, .ref q41])), (q25, .inl (cI, 10, .inl f_3)), (q33, .inl (cI, 10, .inl (fun _ => 0))), (q41, .inl (cI, 10, .inl f_4))] := hD
  have hl : lv_has ls 2 [(0, .ref h_this), (1, .int i_2)] := hl
  refine lv_iload_n hx hb dX1_init_48 rfl (lv_at hl 1 rfl) ?_
  refine lv_bipush (v := (10 : Int32)) hx hb dX1_init_49 (by decide) ?_
  refine lv_icmp_ge (tgt := 75) hx hb dX1_init_51 (by decide) (fun c_ => ?_) (fun c_ => ?_)
  · replace vc := vc.1 c_
    exact W.vret hx hb hr (fun t ht hW => ⟨⟨(q25, q33, q41, (1023 : Int32), (20 : Int32), (0 : Int32), f_3, (fun _ => 0), f_4), rfl, vc, QB_mk (hP.sub [0, 1, 2, 3] rfl) (hD.sub [0, 1, 2, 3] rfl rfl) ht⟩, hS.F ht⟩) hS.2.2 dX1_init_75
  · replace vc := vc.2 c_
    refine lv_aload_n hx hb dX1_init_54 rfl (lv_at hl 0 rfl) ?_
    refine va_get (D := D) (ci := 1) (v := .ref q25) (C := RX1) (T := TX1) (N := 6) hx hb hts mcX1_init_X1 hown hK.1 hP 0 rfl rfl 3 (by decide) (hts _ mwX1_init_8) (fun _ h9 => h9) rfl dX1_init_55 ?_
    refine lv_iload_n hx hb dX1_init_58 rfl (lv_at hl 1 rfl) ?_
    refine lv_bipush (v := (50 : Int32)) hx hb dX1_init_59 (by decide) ?_
    have hi_5 := vc.1
    replace vc := vc.2
    refine va_iast hx hb hK.1 hP hD hS 1 0 rfl rfl hi_5 dX1_init_61 (fun H locs hP hD hS => ?_)
    have hP : va_P D vwCl [(h_this, .inr (1, [.int (1023 : Int32), .int (20 : Int32), .int (0 : Int32), .ref q25, .ref q33, .ref q41])), (q25, .inl (cI, 10, .inl (upd f_3 (i_2).toNatClampNeg (50 : Int32)))), (q33, .inl (cI, 10, .inl (fun _ => 0))), (q41, .inl (cI, 10, .inl f_4))] H := hP
    have hD : va_D A [(h_this, .inr (1, [.int (1023 : Int32), .int (20 : Int32), .int (0 : Int32), .ref q25, .ref q33, .ref q41])), (q25, .inl (cI, 10, .inl (upd f_3 (i_2).toNatClampNeg (50 : Int32)))), (q33, .inl (cI, 10, .inl (fun _ => 0))), (q41, .inl (cI, 10, .inl f_4))] := hD
    refine lv_aload_n hx hb dX1_init_62 rfl (lv_at hl 0 rfl) ?_
    refine va_get (D := D) (ci := 1) (v := .ref q41) (C := RX1) (T := TX1) (N := 6) hx hb hts mcX1_init_X1 hown hK.1 hP 0 rfl rfl 5 (by decide) (hts _ mwX1_init_10) (fun _ h9 => h9) rfl dX1_init_63 ?_
    refine lv_iload_n hx hb dX1_init_66 rfl (lv_at hl 1 rfl) ?_
    refine lv_iload_n hx hb dX1_init_67 rfl (lv_at hl 1 rfl) ?_
    have hi_6 := vc.1
    replace vc := vc.2
    refine va_iast hx hb hK.1 hP hD hS 3 0 rfl rfl hi_6 dX1_init_68 (fun H locs hP hD hS => ?_)
    have hP : va_P D vwCl [(h_this, .inr (1, [.int (1023 : Int32), .int (20 : Int32), .int (0 : Int32), .ref q25, .ref q33, .ref q41])), (q25, .inl (cI, 10, .inl (upd f_3 (i_2).toNatClampNeg (50 : Int32)))), (q33, .inl (cI, 10, .inl (fun _ => 0))), (q41, .inl (cI, 10, .inl (upd f_4 (i_2).toNatClampNeg i_2)))] H := hP
    have hD : va_D A [(h_this, .inr (1, [.int (1023 : Int32), .int (20 : Int32), .int (0 : Int32), .ref q25, .ref q33, .ref q41])), (q25, .inl (cI, 10, .inl (upd f_3 (i_2).toNatClampNeg (50 : Int32)))), (q33, .inl (cI, 10, .inl (fun _ => 0))), (q41, .inl (cI, 10, .inl (upd f_4 (i_2).toNatClampNeg i_2)))] := hD
    obtain ⟨x_7, ex_7⟩ : ∃ y_ : Int32, y_ = (i_2 + (1 : Int32)) := ⟨_, rfl⟩
    replace vc := vc x_7 ex_7
    refine lv_iinc (v := x_7) (lv' := [(1, .int x_7), (0, .ref h_this)]) hx hb dX1_init_69 hl (k := 1) rfl (by rw [ex_7]; rfl) (by decide) rfl (fun ls hl => ?_)
    refine lv_goto (tgt := 48) hx hb dX1_init_72 (by decide) ?_
    obtain ⟨n1_, hlt_, hi_⟩ := vc
    exact ih_1 n1_ (x_7, (upd f_3 (i_2).toNatClampNeg (50 : Int32)), (upd f_4 (i_2).toNatClampNeg i_2)) hlt_ hi_ _ _ hP hD hS ls (lv_sub hl [1, 0] rfl)

theorem mwX1_copyFrom_1 : Cond.fieldLink RX1 9 "HassockSee$Diocese" "there" "I" ∈ wsX1_copyFrom := List.mem_of_getElem? (i := 1) rfl
theorem mwX1_copyFrom_2 : Cond.fieldLink RX1 15 "HassockSee$Diocese" "hair" "I" ∈ wsX1_copyFrom := List.mem_of_getElem? (i := 2) rfl
theorem mwX1_copyFrom_3 : Cond.fieldLink RX1 18 "HassockSee$Diocese" "year" "I" ∈ wsX1_copyFrom := List.mem_of_getElem? (i := 3) rfl
theorem mwX1_copyFrom_4 : Cond.fieldLink RX1 21 "HassockSee$Diocese" "wool" "[I" ∈ wsX1_copyFrom := List.mem_of_getElem? (i := 4) rfl
theorem mwX1_copyFrom_5 : Cond.fieldLink RX1 25 "HassockSee$Diocese" "stitches" "[I" ∈ wsX1_copyFrom := List.mem_of_getElem? (i := 5) rfl
theorem mwX1_copyFrom_6 : Cond.fieldLink RX1 28 "HassockSee$Diocese" "place" "[I" ∈ wsX1_copyFrom := List.mem_of_getElem? (i := 6) rfl
theorem mcX1_copyFrom_X1 : ∀ w ∈ u_ws RX1 TX1 6, w ∈ wsX1_copyFrom := fun _ h => (List.mem_cons_of_mem _ (List.mem_append_right _ h))
def KX1_copyFrom (l : Launch) (D : va_G) (cI cZ : ClassId) (P : Int32 → Int32 → Int32 → (Nat → Int32) → (Nat → Int32) → (Nat → Int32) → Int32 → Int32 → Int32 → (Nat → Int32) → (Nat → Int32) → (Nat → Int32) → Prop) (Q : Int32 → Int32 → Int32 → (Nat → Int32) → (Nat → Int32) → (Nat → Int32) → Int32 → Int32 → Int32 → (Nat → Int32) → (Nat → Int32) → (Nat → Int32) → Int32 → Int32 → Int32 → (Nat → Int32) → (Nat → Int32) → (Nat → Int32) → Prop) : Prop := ∀ (sz : Nat) (h_this h_a0 h_this_wool h_this_stitches h_this_place h_a0_wool h_a0_stitches h_a0_place : Nat) (v_there : Int32) (v_hair : Int32) (v_year : Int32) (v_place : (Nat → Int32)) (v_stitches : (Nat → Int32)) (v_wool : (Nat → Int32)) (v_a0_there : Int32) (v_a0_hair : Int32) (v_a0_year : Int32) (v_a0_place : (Nat → Int32)) (v_a0_stitches : (Nat → Int32)) (v_a0_wool : (Nat → Int32)), P v_there v_hair v_year v_place v_stitches v_wool v_a0_there v_a0_hair v_a0_year v_a0_place v_a0_stitches v_a0_wool → MV l yX1_copyFrom wsX1_copyFrom ({ frames := 0, cells := 0, slots := 0, locals := 0 }) [.ref h_this, .ref h_a0] D cI cZ sz [(h_this, .inr (1, [.int v_there, .int v_hair, .int v_year, .ref h_this_wool, .ref h_this_stitches, .ref h_this_place])), (h_this_place, .inl (cI, 10, .inl v_place)), (h_this_stitches, .inl (cI, 10, .inl v_stitches)), (h_this_wool, .inl (cI, 10, .inl v_wool)), (h_a0, .inr (1, [.int v_a0_there, .int v_a0_hair, .int v_a0_year, .ref h_a0_wool, .ref h_a0_stitches, .ref h_a0_place])), (h_a0_place, .inl (cI, 10, .inl v_a0_place)), (h_a0_stitches, .inl (cI, 10, .inl v_a0_stitches)), (h_a0_wool, .inl (cI, 10, .inl v_a0_wool))] (fun (u : Int32 × Int32 × Int32 × (Nat → Int32) × (Nat → Int32) × (Nat → Int32)) => Q v_there v_hair v_year v_place v_stitches v_wool v_a0_there v_a0_hair v_a0_year v_a0_place v_a0_stitches v_a0_wool (u.1) (u.2.1) (u.2.2.1) (u.2.2.2.1) (u.2.2.2.2.1) (u.2.2.2.2.2)) (fun u => [(h_this, .inr (1, [.int (u.1), .int (u.2.1), .int (u.2.2.1), .ref h_this_wool, .ref h_this_stitches, .ref h_this_place])), (h_this_place, .inl (cI, 10, .inl (u.2.2.2.1))), (h_this_stitches, .inl (cI, 10, .inl (u.2.2.2.2.1))), (h_this_wool, .inl (cI, 10, .inl (u.2.2.2.2.2))), (h_a0, .inr (1, [.int v_a0_there, .int v_a0_hair, .int v_a0_year, .ref h_a0_wool, .ref h_a0_stitches, .ref h_a0_place])), (h_a0_place, .inl (cI, 10, .inl v_a0_place)), (h_a0_stitches, .inl (cI, 10, .inl v_a0_stitches)), (h_a0_wool, .inl (cI, 10, .inl v_a0_wool))]) 0 0
set_option maxHeartbeats 4000000 in
set_option maxRecDepth 100000 in
theorem walkX1_copyFrom {l : Launch} {D : va_G} {cI cZ : ClassId} {PX1_copyFrom : Int32 → Int32 → Int32 → (Nat → Int32) → (Nat → Int32) → (Nat → Int32) → Int32 → Int32 → Int32 → (Nat → Int32) → (Nat → Int32) → (Nat → Int32) → Prop} {QX1_copyFrom : Int32 → Int32 → Int32 → (Nat → Int32) → (Nat → Int32) → (Nat → Int32) → Int32 → Int32 → Int32 → (Nat → Int32) → (Nat → Int32) → (Nat → Int32) → Int32 → Int32 → Int32 → (Nat → Int32) → (Nat → Int32) → (Nat → Int32) → Prop} (IX1_copyFrom_26 : Int32 → Int32 → Int32 → (Nat → Int32) → (Nat → Int32) → (Nat → Int32) → Int32 → Int32 → Int32 → (Nat → Int32) → (Nat → Int32) → (Nat → Int32) → Nat → Int32 → Int32 → Int32 → Int32 → (Nat → Int32) → (Nat → Int32) → (Nat → Int32) → Prop) (hvc : ∀ (v_there : Int32) (v_hair : Int32) (v_year : Int32) (v_place : (Nat → Int32)) (v_stitches : (Nat → Int32)) (v_wool : (Nat → Int32)) (v_a0_there : Int32) (v_a0_hair : Int32) (v_a0_year : Int32) (v_a0_place : (Nat → Int32)) (v_a0_stitches : (Nat → Int32)) (v_a0_wool : (Nat → Int32)), PX1_copyFrom v_there v_hair v_year v_place v_stitches v_wool v_a0_there v_a0_hair v_a0_year v_a0_place v_a0_stitches v_a0_wool → ((∃ n0 : Nat, IX1_copyFrom_26 v_there v_hair v_year v_place v_stitches v_wool v_a0_there v_a0_hair v_a0_year v_a0_place v_a0_stitches v_a0_wool n0 (0 : Int32) v_a0_there v_a0_hair v_a0_year v_place v_stitches v_wool) ∧ (∀ (n_1 : Nat) (i_2 : Int32) (f_3 : (Nat → Int32)) (f_4 : (Nat → Int32)) (f_5 : (Nat → Int32)), (IX1_copyFrom_26 v_there v_hair v_year v_place v_stitches v_wool v_a0_there v_a0_hair v_a0_year v_a0_place v_a0_stitches v_a0_wool n_1 i_2 v_a0_there v_a0_hair v_a0_year f_3 f_4 f_5 → (((10 : Int32) ≤ i_2 → (QX1_copyFrom v_there v_hair v_year v_place v_stitches v_wool v_a0_there v_a0_hair v_a0_year v_a0_place v_a0_stitches v_a0_wool v_a0_there v_a0_hair v_a0_year f_3 f_4 f_5)) ∧ (¬ (10 : Int32) ≤ i_2 → (vp_in i_2 10 ∧ (∀ x_7 : Int32, x_7 = (v_a0_wool (i_2).toNatClampNeg) → (vp_in i_2 10 ∧ (vp_in i_2 10 ∧ (∀ x_10 : Int32, x_10 = (v_a0_stitches (i_2).toNatClampNeg) → (vp_in i_2 10 ∧ (vp_in i_2 10 ∧ (∀ x_13 : Int32, x_13 = (v_a0_place (i_2).toNatClampNeg) → (vp_in i_2 10 ∧ (∀ x_15 : Int32, x_15 = (i_2 + (1 : Int32)) → (∃ n1 : Nat, n1 < n_1 ∧ IX1_copyFrom_26 v_there v_hair v_year v_place v_stitches v_wool v_a0_there v_a0_hair v_a0_year v_a0_place v_a0_stitches v_a0_wool n1 x_15 v_a0_there v_a0_hair v_a0_year (upd f_3 (i_2).toNatClampNeg x_13) (upd f_4 (i_2).toNatClampNeg x_10) (upd f_5 (i_2).toNatClampNeg x_7)))))))))))))))))) : KX1_copyFrom l D cI cZ PX1_copyFrom QX1_copyFrom := by
  intro sz h_this h_a0 h_this_wool h_this_stitches h_this_place h_a0_wool h_a0_stitches h_a0_place v_there v_hair v_year v_place v_stitches v_wool v_a0_there v_a0_hair v_a0_year v_a0_place v_a0_stitches v_a0_wool hpre
  have vc := hvc v_there v_hair v_year v_place v_stitches v_wool v_a0_there v_a0_hair v_a0_year v_a0_place v_a0_stitches v_a0_wool hpre
  clear hvc
  refine Met.ofW (cc := cX1_copyFrom) (maxL := 3) (ret := none) (by decide) rfl ?_
  intro p e s m args below meth c s₁ B hml hv
  obtain ⟨rfl, hsz, hP, hK, hD0⟩ := hv
  have hx := B.exec
  have hb := B.bytes
  have hr := B.returns
  have hts := atoms_spec (ws := wsX1_copyFrom) B.pre
  have hown : s.vm.findClass RX1 = some m.cls := findClass_of_methodNamed B.named
  have hlocks := B.notSynchronized
  subst hsz
  have hD := hD0.self (sz := s.heap.size)
  generalize hAe : va_A [(h_this, .inr (1, [.int v_there, .int v_hair, .int v_year, .ref h_this_wool, .ref h_this_stitches, .ref h_this_place])), (h_this_place, .inl (cI, 10, .inl v_place)), (h_this_stitches, .inl (cI, 10, .inl v_stitches)), (h_this_wool, .inl (cI, 10, .inl v_wool)), (h_a0, .inr (1, [.int v_a0_there, .int v_a0_hair, .int v_a0_year, .ref h_a0_wool, .ref h_a0_stitches, .ref h_a0_place])), (h_a0_place, .inl (cI, 10, .inl v_a0_place)), (h_a0_stitches, .inl (cI, 10, .inl v_a0_stitches)), (h_a0_wool, .inl (cI, 10, .inl v_a0_wool))] s.heap.size = A at hD ⊢
  have hA : ∀ q : Nat, s.heap.size ≤ q → A q := fun q h => by rw [← hAe]; exact Or.inr h
  have hS : va_S A s.heap s.heap [] := va_S.rf
  have hP : va_P D vwCl [(h_this, .inr (1, [.int v_there, .int v_hair, .int v_year, .ref h_this_wool, .ref h_this_stitches, .ref h_this_place])), (h_this_place, .inl (cI, 10, .inl v_place)), (h_this_stitches, .inl (cI, 10, .inl v_stitches)), (h_this_wool, .inl (cI, 10, .inl v_wool)), (h_a0, .inr (1, [.int v_a0_there, .int v_a0_hair, .int v_a0_year, .ref h_a0_wool, .ref h_a0_stitches, .ref h_a0_place])), (h_a0_place, .inl (cI, 10, .inl v_a0_place)), (h_a0_stitches, .inl (cI, 10, .inl v_a0_stitches)), (h_a0_wool, .inl (cI, 10, .inl v_a0_wool))] s.heap := hP
  have hl := lv_entry ([.ref h_this, .ref h_a0]) (n := 3) (Nat.le_of_ble_eq_true rfl)
  rw [lg_entry_eq]
  generalize (lg_sl ([.ref h_this, .ref h_a0]) ++ List.replicate (3 - (lg_sl ([.ref h_this, .ref h_a0])).length) Slot.unset).toArray = ls at hl ⊢
  have hl : lv_has ls 3 [(0, .ref h_this), (1, .ref h_a0)] := hl
  refine lv_aload_n hx hb dX1_copyFrom_0 rfl (lv_at hl 0 rfl) ?_
  refine lv_aload_n hx hb dX1_copyFrom_1 rfl (lv_at hl 1 rfl) ?_
  refine va_get (D := D) (ci := 1) (v := .int v_a0_there) (C := RX1) (T := TX1) (N := 6) hx hb hts mcX1_copyFrom_X1 hown hK.1 hP 4 rfl rfl 0 (by decide) (hts _ mwX1_copyFrom_1) (fun _ h9 => h9) rfl dX1_copyFrom_2 ?_
  refine va_put (D := D) (ci := 1) (v := .int v_a0_there) (ty := .int) (C := RX1) (T := TX1) (N := 6) hx hb hts mcX1_copyFrom_X1 tyX1 tyX1_ok nmX1 hown hK.1 hP hD hS 0 rfl rfl 0 (by decide) (hts _ mwX1_copyFrom_1) (fun _ h9 => h9) rfl (by decide +kernel) rfl rfl (Nat.le_of_ble_eq_true rfl) dX1_copyFrom_5 (fun H locs hP hD hS => ?_)
  have hP : va_P D vwCl [(h_this, .inr (1, [.int v_a0_there, .int v_hair, .int v_year, .ref h_this_wool, .ref h_this_stitches, .ref h_this_place])), (h_this_place, .inl (cI, 10, .inl v_place)), (h_this_stitches, .inl (cI, 10, .inl v_stitches)), (h_this_wool, .inl (cI, 10, .inl v_wool)), (h_a0, .inr (1, [.int v_a0_there, .int v_a0_hair, .int v_a0_year, .ref h_a0_wool, .ref h_a0_stitches, .ref h_a0_place])), (h_a0_place, .inl (cI, 10, .inl v_a0_place)), (h_a0_stitches, .inl (cI, 10, .inl v_a0_stitches)), (h_a0_wool, .inl (cI, 10, .inl v_a0_wool))] H := hP
  have hD : va_D A [(h_this, .inr (1, [.int v_a0_there, .int v_hair, .int v_year, .ref h_this_wool, .ref h_this_stitches, .ref h_this_place])), (h_this_place, .inl (cI, 10, .inl v_place)), (h_this_stitches, .inl (cI, 10, .inl v_stitches)), (h_this_wool, .inl (cI, 10, .inl v_wool)), (h_a0, .inr (1, [.int v_a0_there, .int v_a0_hair, .int v_a0_year, .ref h_a0_wool, .ref h_a0_stitches, .ref h_a0_place])), (h_a0_place, .inl (cI, 10, .inl v_a0_place)), (h_a0_stitches, .inl (cI, 10, .inl v_a0_stitches)), (h_a0_wool, .inl (cI, 10, .inl v_a0_wool))] := hD
  refine lv_aload_n hx hb dX1_copyFrom_8 rfl (lv_at hl 0 rfl) ?_
  refine lv_aload_n hx hb dX1_copyFrom_9 rfl (lv_at hl 1 rfl) ?_
  refine va_get (D := D) (ci := 1) (v := .int v_a0_hair) (C := RX1) (T := TX1) (N := 6) hx hb hts mcX1_copyFrom_X1 hown hK.1 hP 4 rfl rfl 1 (by decide) (hts _ mwX1_copyFrom_2) (fun _ h9 => h9) rfl dX1_copyFrom_10 ?_
  refine va_put (D := D) (ci := 1) (v := .int v_a0_hair) (ty := .int) (C := RX1) (T := TX1) (N := 6) hx hb hts mcX1_copyFrom_X1 tyX1 tyX1_ok nmX1 hown hK.1 hP hD hS 0 rfl rfl 1 (by decide) (hts _ mwX1_copyFrom_2) (fun _ h9 => h9) rfl (by decide +kernel) rfl rfl (Nat.le_of_ble_eq_true rfl) dX1_copyFrom_13 (fun H locs hP hD hS => ?_)
  have hP : va_P D vwCl [(h_this, .inr (1, [.int v_a0_there, .int v_a0_hair, .int v_year, .ref h_this_wool, .ref h_this_stitches, .ref h_this_place])), (h_this_place, .inl (cI, 10, .inl v_place)), (h_this_stitches, .inl (cI, 10, .inl v_stitches)), (h_this_wool, .inl (cI, 10, .inl v_wool)), (h_a0, .inr (1, [.int v_a0_there, .int v_a0_hair, .int v_a0_year, .ref h_a0_wool, .ref h_a0_stitches, .ref h_a0_place])), (h_a0_place, .inl (cI, 10, .inl v_a0_place)), (h_a0_stitches, .inl (cI, 10, .inl v_a0_stitches)), (h_a0_wool, .inl (cI, 10, .inl v_a0_wool))] H := hP
  have hD : va_D A [(h_this, .inr (1, [.int v_a0_there, .int v_a0_hair, .int v_year, .ref h_this_wool, .ref h_this_stitches, .ref h_this_place])), (h_this_place, .inl (cI, 10, .inl v_place)), (h_this_stitches, .inl (cI, 10, .inl v_stitches)), (h_this_wool, .inl (cI, 10, .inl v_wool)), (h_a0, .inr (1, [.int v_a0_there, .int v_a0_hair, .int v_a0_year, .ref h_a0_wool, .ref h_a0_stitches, .ref h_a0_place])), (h_a0_place, .inl (cI, 10, .inl v_a0_place)), (h_a0_stitches, .inl (cI, 10, .inl v_a0_stitches)), (h_a0_wool, .inl (cI, 10, .inl v_a0_wool))] := hD
  refine lv_aload_n hx hb dX1_copyFrom_16 rfl (lv_at hl 0 rfl) ?_
  refine lv_aload_n hx hb dX1_copyFrom_17 rfl (lv_at hl 1 rfl) ?_
  refine va_get (D := D) (ci := 1) (v := .int v_a0_year) (C := RX1) (T := TX1) (N := 6) hx hb hts mcX1_copyFrom_X1 hown hK.1 hP 4 rfl rfl 2 (by decide) (hts _ mwX1_copyFrom_3) (fun _ h9 => h9) rfl dX1_copyFrom_18 ?_
  refine va_put (D := D) (ci := 1) (v := .int v_a0_year) (ty := .int) (C := RX1) (T := TX1) (N := 6) hx hb hts mcX1_copyFrom_X1 tyX1 tyX1_ok nmX1 hown hK.1 hP hD hS 0 rfl rfl 2 (by decide) (hts _ mwX1_copyFrom_3) (fun _ h9 => h9) rfl (by decide +kernel) rfl rfl (Nat.le_of_ble_eq_true rfl) dX1_copyFrom_21 (fun H locs hP hD hS => ?_)
  have hP : va_P D vwCl [(h_this, .inr (1, [.int v_a0_there, .int v_a0_hair, .int v_a0_year, .ref h_this_wool, .ref h_this_stitches, .ref h_this_place])), (h_this_place, .inl (cI, 10, .inl v_place)), (h_this_stitches, .inl (cI, 10, .inl v_stitches)), (h_this_wool, .inl (cI, 10, .inl v_wool)), (h_a0, .inr (1, [.int v_a0_there, .int v_a0_hair, .int v_a0_year, .ref h_a0_wool, .ref h_a0_stitches, .ref h_a0_place])), (h_a0_place, .inl (cI, 10, .inl v_a0_place)), (h_a0_stitches, .inl (cI, 10, .inl v_a0_stitches)), (h_a0_wool, .inl (cI, 10, .inl v_a0_wool))] H := hP
  have hD : va_D A [(h_this, .inr (1, [.int v_a0_there, .int v_a0_hair, .int v_a0_year, .ref h_this_wool, .ref h_this_stitches, .ref h_this_place])), (h_this_place, .inl (cI, 10, .inl v_place)), (h_this_stitches, .inl (cI, 10, .inl v_stitches)), (h_this_wool, .inl (cI, 10, .inl v_wool)), (h_a0, .inr (1, [.int v_a0_there, .int v_a0_hair, .int v_a0_year, .ref h_a0_wool, .ref h_a0_stitches, .ref h_a0_place])), (h_a0_place, .inl (cI, 10, .inl v_a0_place)), (h_a0_stitches, .inl (cI, 10, .inl v_a0_stitches)), (h_a0_wool, .inl (cI, 10, .inl v_a0_wool))] := hD
  refine lv_iconst (v := (0 : Int32)) hx hb dX1_copyFrom_24 (by decide) ?_
  refine lv_istore_n (lv' := [(2, .int (0 : Int32)), (0, .ref h_this), (1, .ref h_a0)]) hx hb dX1_copyFrom_25 rfl hl (by decide) rfl (fun ls hl => ?_)
  obtain ⟨⟨n0_1, hi0_1⟩, vc⟩ := vc
  refine kloop (V := Int32 × (Nat → Int32) × (Nat → Int32) × (Nat → Int32)) (I := fun n v => IX1_copyFrom_26 v_there v_hair v_year v_place v_stitches v_wool v_a0_there v_a0_hair v_a0_year v_a0_place v_a0_stitches v_a0_wool n (v.1) v_a0_there v_a0_hair v_a0_year (v.2.1) (v.2.2.1) (v.2.2.2)) (wv := fun v => [(h_this, .inr (1, [.int v_a0_there, .int v_a0_hair, .int v_a0_year, .ref h_this_wool, .ref h_this_stitches, .ref h_this_place])), (h_this_place, .inl (cI, 10, .inl (v.2.1))), (h_this_stitches, .inl (cI, 10, .inl (v.2.2.1))), (h_this_wool, .inl (cI, 10, .inl (v.2.2.2))), (h_a0, .inr (1, [.int v_a0_there, .int v_a0_hair, .int v_a0_year, .ref h_a0_wool, .ref h_a0_stitches, .ref h_a0_place])), (h_a0_place, .inl (cI, 10, .inl v_a0_place)), (h_a0_stitches, .inl (cI, 10, .inl v_a0_stitches)), (h_a0_wool, .inl (cI, 10, .inl v_a0_wool))]) (lv := fun v => [(0, .ref h_this), (1, .ref h_a0), (2, .int (v.1))]) n0_1 ((0 : Int32), v_place, v_stitches, v_wool) hi0_1 hP hD hS (lv_sub hl [1, 2, 0] rfl) ?_
  intro n_1 v_1 hi_1 ih_1 H locs hP hD hS ls hl
  obtain ⟨i_2, f_3, f_4, f_5⟩ := v_1
  replace vc := vc n_1 i_2 f_3 f_4 f_5 hi_1
  have hP : va_P D vwCl [(h_this, .inr (1, [.int v_a0_there, .int v_a0_hair, .int v_a0_year, .ref h_this_wool, .ref h_this_stitches, .ref h_this_place])), (h_this_place, .inl (cI, 10, .inl f_3)), (h_this_stitches, .inl (cI, 10, .inl f_4)), (h_this_wool, .inl (cI, 10, .inl f_5)), (h_a0, .inr (1, [.int v_a0_there, .int v_a0_hair, .int v_a0_year, .ref h_a0_wool, .ref h_a0_stitches, .ref h_a0_place])), (h_a0_place, .inl (cI, 10, .inl v_a0_place)), (h_a0_stitches, .inl (cI, 10, .inl v_a0_stitches)), (h_a0_wool, .inl (cI, 10, .inl v_a0_wool))] H := hP
  have hD : va_D A [(h_this, .inr (1, [.int v_a0_there, .int v_a0_hair, .int v_a0_year, .ref h_this_wool, .ref h_this_stitches, .ref h_this_place])), (h_this_place, .inl (cI, 10, .inl f_3)), (h_this_stitches, .inl (cI, 10, .inl f_4)), (h_this_wool, .inl (cI, 10, .inl f_5)), (h_a0, .inr (1, [.int v_a0_there, .int v_a0_hair, .int v_a0_year, .ref h_a0_wool, .ref h_a0_stitches, .ref h_a0_place])), (h_a0_place, .inl (cI, 10, .inl v_a0_place)), (h_a0_stitches, .inl (cI, 10, .inl v_a0_stitches)), (h_a0_wool, .inl (cI, 10, .inl v_a0_wool))] := hD
  have hl : lv_has ls 3 [(0, .ref h_this), (1, .ref h_a0), (2, .int i_2)] := hl
  refine lv_iload_n hx hb dX1_copyFrom_26 rfl (lv_at hl 2 rfl) ?_
  refine lv_bipush (v := (10 : Int32)) hx hb dX1_copyFrom_27 (by decide) ?_
  refine lv_icmp_ge (tgt := 74) hx hb dX1_copyFrom_29 (by decide) (fun c_ => ?_) (fun c_ => ?_)
  · replace vc := vc.1 c_
    exact W.vret hx hb hr (fun t ht hW => ⟨⟨(v_a0_there, v_a0_hair, v_a0_year, f_3, f_4, f_5), rfl, vc, QB_mk (hP.sub [0, 1, 2, 3, 4, 5, 6, 7] rfl) (hD.sub [0, 1, 2, 3, 4, 5, 6, 7] rfl rfl) ht⟩, hS.F ht⟩) hS.2.2 dX1_copyFrom_74
  · replace vc := vc.2 c_
    refine lv_aload_n hx hb dX1_copyFrom_32 rfl (lv_at hl 0 rfl) ?_
    refine va_get (D := D) (ci := 1) (v := .ref h_this_wool) (C := RX1) (T := TX1) (N := 6) hx hb hts mcX1_copyFrom_X1 hown hK.1 hP 0 rfl rfl 3 (by decide) (hts _ mwX1_copyFrom_4) (fun _ h9 => h9) rfl dX1_copyFrom_33 ?_
    refine lv_iload_n hx hb dX1_copyFrom_36 rfl (lv_at hl 2 rfl) ?_
    refine lv_aload_n hx hb dX1_copyFrom_37 rfl (lv_at hl 1 rfl) ?_
    refine va_get (D := D) (ci := 1) (v := .ref h_a0_wool) (C := RX1) (T := TX1) (N := 6) hx hb hts mcX1_copyFrom_X1 hown hK.1 hP 4 rfl rfl 3 (by decide) (hts _ mwX1_copyFrom_4) (fun _ h9 => h9) rfl dX1_copyFrom_38 ?_
    refine lv_iload_n hx hb dX1_copyFrom_41 rfl (lv_at hl 2 rfl) ?_
    have hi_6 := vc.1
    replace vc := vc.2
    refine va_iald hx hb hK.1 hP 7 0 rfl rfl hi_6 dX1_copyFrom_42 ?_
    refine lv_topi (fun x_7 ex_7 => ?_)
    replace vc := vc x_7 ex_7
    have hi_8 := vc.1
    replace vc := vc.2
    refine va_iast hx hb hK.1 hP hD hS 3 0 rfl rfl hi_8 dX1_copyFrom_43 (fun H locs hP hD hS => ?_)
    have hP : va_P D vwCl [(h_this, .inr (1, [.int v_a0_there, .int v_a0_hair, .int v_a0_year, .ref h_this_wool, .ref h_this_stitches, .ref h_this_place])), (h_this_place, .inl (cI, 10, .inl f_3)), (h_this_stitches, .inl (cI, 10, .inl f_4)), (h_this_wool, .inl (cI, 10, .inl (upd f_5 (i_2).toNatClampNeg x_7))), (h_a0, .inr (1, [.int v_a0_there, .int v_a0_hair, .int v_a0_year, .ref h_a0_wool, .ref h_a0_stitches, .ref h_a0_place])), (h_a0_place, .inl (cI, 10, .inl v_a0_place)), (h_a0_stitches, .inl (cI, 10, .inl v_a0_stitches)), (h_a0_wool, .inl (cI, 10, .inl v_a0_wool))] H := hP
    have hD : va_D A [(h_this, .inr (1, [.int v_a0_there, .int v_a0_hair, .int v_a0_year, .ref h_this_wool, .ref h_this_stitches, .ref h_this_place])), (h_this_place, .inl (cI, 10, .inl f_3)), (h_this_stitches, .inl (cI, 10, .inl f_4)), (h_this_wool, .inl (cI, 10, .inl (upd f_5 (i_2).toNatClampNeg x_7))), (h_a0, .inr (1, [.int v_a0_there, .int v_a0_hair, .int v_a0_year, .ref h_a0_wool, .ref h_a0_stitches, .ref h_a0_place])), (h_a0_place, .inl (cI, 10, .inl v_a0_place)), (h_a0_stitches, .inl (cI, 10, .inl v_a0_stitches)), (h_a0_wool, .inl (cI, 10, .inl v_a0_wool))] := hD
    refine lv_aload_n hx hb dX1_copyFrom_44 rfl (lv_at hl 0 rfl) ?_
    refine va_get (D := D) (ci := 1) (v := .ref h_this_stitches) (C := RX1) (T := TX1) (N := 6) hx hb hts mcX1_copyFrom_X1 hown hK.1 hP 0 rfl rfl 4 (by decide) (hts _ mwX1_copyFrom_5) (fun _ h9 => h9) rfl dX1_copyFrom_45 ?_
    refine lv_iload_n hx hb dX1_copyFrom_48 rfl (lv_at hl 2 rfl) ?_
    refine lv_aload_n hx hb dX1_copyFrom_49 rfl (lv_at hl 1 rfl) ?_
    refine va_get (D := D) (ci := 1) (v := .ref h_a0_stitches) (C := RX1) (T := TX1) (N := 6) hx hb hts mcX1_copyFrom_X1 hown hK.1 hP 4 rfl rfl 4 (by decide) (hts _ mwX1_copyFrom_5) (fun _ h9 => h9) rfl dX1_copyFrom_50 ?_
    refine lv_iload_n hx hb dX1_copyFrom_53 rfl (lv_at hl 2 rfl) ?_
    have hi_9 := vc.1
    replace vc := vc.2
    refine va_iald hx hb hK.1 hP 6 0 rfl rfl hi_9 dX1_copyFrom_54 ?_
    refine lv_topi (fun x_10 ex_10 => ?_)
    replace vc := vc x_10 ex_10
    have hi_11 := vc.1
    replace vc := vc.2
    refine va_iast hx hb hK.1 hP hD hS 2 0 rfl rfl hi_11 dX1_copyFrom_55 (fun H locs hP hD hS => ?_)
    have hP : va_P D vwCl [(h_this, .inr (1, [.int v_a0_there, .int v_a0_hair, .int v_a0_year, .ref h_this_wool, .ref h_this_stitches, .ref h_this_place])), (h_this_place, .inl (cI, 10, .inl f_3)), (h_this_stitches, .inl (cI, 10, .inl (upd f_4 (i_2).toNatClampNeg x_10))), (h_this_wool, .inl (cI, 10, .inl (upd f_5 (i_2).toNatClampNeg x_7))), (h_a0, .inr (1, [.int v_a0_there, .int v_a0_hair, .int v_a0_year, .ref h_a0_wool, .ref h_a0_stitches, .ref h_a0_place])), (h_a0_place, .inl (cI, 10, .inl v_a0_place)), (h_a0_stitches, .inl (cI, 10, .inl v_a0_stitches)), (h_a0_wool, .inl (cI, 10, .inl v_a0_wool))] H := hP
    have hD : va_D A [(h_this, .inr (1, [.int v_a0_there, .int v_a0_hair, .int v_a0_year, .ref h_this_wool, .ref h_this_stitches, .ref h_this_place])), (h_this_place, .inl (cI, 10, .inl f_3)), (h_this_stitches, .inl (cI, 10, .inl (upd f_4 (i_2).toNatClampNeg x_10))), (h_this_wool, .inl (cI, 10, .inl (upd f_5 (i_2).toNatClampNeg x_7))), (h_a0, .inr (1, [.int v_a0_there, .int v_a0_hair, .int v_a0_year, .ref h_a0_wool, .ref h_a0_stitches, .ref h_a0_place])), (h_a0_place, .inl (cI, 10, .inl v_a0_place)), (h_a0_stitches, .inl (cI, 10, .inl v_a0_stitches)), (h_a0_wool, .inl (cI, 10, .inl v_a0_wool))] := hD
    refine lv_aload_n hx hb dX1_copyFrom_56 rfl (lv_at hl 0 rfl) ?_
    refine va_get (D := D) (ci := 1) (v := .ref h_this_place) (C := RX1) (T := TX1) (N := 6) hx hb hts mcX1_copyFrom_X1 hown hK.1 hP 0 rfl rfl 5 (by decide) (hts _ mwX1_copyFrom_6) (fun _ h9 => h9) rfl dX1_copyFrom_57 ?_
    refine lv_iload_n hx hb dX1_copyFrom_60 rfl (lv_at hl 2 rfl) ?_
    refine lv_aload_n hx hb dX1_copyFrom_61 rfl (lv_at hl 1 rfl) ?_
    refine va_get (D := D) (ci := 1) (v := .ref h_a0_place) (C := RX1) (T := TX1) (N := 6) hx hb hts mcX1_copyFrom_X1 hown hK.1 hP 4 rfl rfl 5 (by decide) (hts _ mwX1_copyFrom_6) (fun _ h9 => h9) rfl dX1_copyFrom_62 ?_
    refine lv_iload_n hx hb dX1_copyFrom_65 rfl (lv_at hl 2 rfl) ?_
    have hi_12 := vc.1
    replace vc := vc.2
    refine va_iald hx hb hK.1 hP 5 0 rfl rfl hi_12 dX1_copyFrom_66 ?_
    refine lv_topi (fun x_13 ex_13 => ?_)
    replace vc := vc x_13 ex_13
    have hi_14 := vc.1
    replace vc := vc.2
    refine va_iast hx hb hK.1 hP hD hS 1 0 rfl rfl hi_14 dX1_copyFrom_67 (fun H locs hP hD hS => ?_)
    have hP : va_P D vwCl [(h_this, .inr (1, [.int v_a0_there, .int v_a0_hair, .int v_a0_year, .ref h_this_wool, .ref h_this_stitches, .ref h_this_place])), (h_this_place, .inl (cI, 10, .inl (upd f_3 (i_2).toNatClampNeg x_13))), (h_this_stitches, .inl (cI, 10, .inl (upd f_4 (i_2).toNatClampNeg x_10))), (h_this_wool, .inl (cI, 10, .inl (upd f_5 (i_2).toNatClampNeg x_7))), (h_a0, .inr (1, [.int v_a0_there, .int v_a0_hair, .int v_a0_year, .ref h_a0_wool, .ref h_a0_stitches, .ref h_a0_place])), (h_a0_place, .inl (cI, 10, .inl v_a0_place)), (h_a0_stitches, .inl (cI, 10, .inl v_a0_stitches)), (h_a0_wool, .inl (cI, 10, .inl v_a0_wool))] H := hP
    have hD : va_D A [(h_this, .inr (1, [.int v_a0_there, .int v_a0_hair, .int v_a0_year, .ref h_this_wool, .ref h_this_stitches, .ref h_this_place])), (h_this_place, .inl (cI, 10, .inl (upd f_3 (i_2).toNatClampNeg x_13))), (h_this_stitches, .inl (cI, 10, .inl (upd f_4 (i_2).toNatClampNeg x_10))), (h_this_wool, .inl (cI, 10, .inl (upd f_5 (i_2).toNatClampNeg x_7))), (h_a0, .inr (1, [.int v_a0_there, .int v_a0_hair, .int v_a0_year, .ref h_a0_wool, .ref h_a0_stitches, .ref h_a0_place])), (h_a0_place, .inl (cI, 10, .inl v_a0_place)), (h_a0_stitches, .inl (cI, 10, .inl v_a0_stitches)), (h_a0_wool, .inl (cI, 10, .inl v_a0_wool))] := hD
    obtain ⟨x_15, ex_15⟩ : ∃ y_ : Int32, y_ = (i_2 + (1 : Int32)) := ⟨_, rfl⟩
    replace vc := vc x_15 ex_15
    refine lv_iinc (v := x_15) (lv' := [(2, .int x_15), (0, .ref h_this), (1, .ref h_a0)]) hx hb dX1_copyFrom_68 hl (k := 2) rfl (by rw [ex_15]; rfl) (by decide) rfl (fun ls hl => ?_)
    refine lv_goto (tgt := 26) hx hb dX1_copyFrom_71 (by decide) ?_
    obtain ⟨n1_, hlt_, hi_⟩ := vc
    exact ih_1 n1_ (x_15, (upd f_3 (i_2).toNatClampNeg x_13), (upd f_4 (i_2).toNatClampNeg x_10), (upd f_5 (i_2).toNatClampNeg x_7)) hlt_ hi_ _ _ hP hD hS ls (lv_sub hl [1, 2, 0] rfl)

def KX8_isHassock (l : Launch) (D : va_G) (cI cZ : ClassId) (P : Int32 → Prop) (Q : Int32 → Int32 → Prop) : Prop := ∀ (sz : Nat) (p0 : Int32), P p0 → MI l yX8_isHassock wsX8_isHassock ({ frames := 0, cells := 0, slots := 0, locals := 0 }) [.int p0] D cI cZ sz [] (fun r (u : Unit) => Q p0 r ) (fun u => []) 0 0
set_option maxHeartbeats 4000000 in
set_option maxRecDepth 100000 in
theorem walkX8_isHassock {l : Launch} {D : va_G} {cI cZ : ClassId} {PX8_isHassock : Int32 → Prop} {QX8_isHassock : Int32 → Int32 → Prop}  (hvc : ∀ (p0 : Int32), PX8_isHassock p0 → ((p0 < 0 → (QX8_isHassock p0 (0 : Int32) )) ∧ (¬ p0 < 0 → (((10 : Int32) ≤ p0 → (QX8_isHassock p0 (0 : Int32) )) ∧ (¬ (10 : Int32) ≤ p0 → (QX8_isHassock p0 (1 : Int32) )))))) : KX8_isHassock l D cI cZ PX8_isHassock QX8_isHassock := by
  intro sz  p0 hpre
  have vc := hvc p0 hpre
  clear hvc
  refine Met.ofW (cc := cX8_isHassock) (maxL := 1) (ret := (some .boolean)) (by decide) rfl ?_
  intro p e s m args below meth c s₁ B hml hv
  obtain ⟨rfl, hsz, hP, hK, hD0⟩ := hv
  have hx := B.exec
  have hb := B.bytes
  have hr := B.returns
  have hts := atoms_spec (ws := wsX8_isHassock) B.pre
  have hown : s.vm.findClass RX8 = some m.cls := findClass_of_methodNamed B.named
  have hlocks := B.notSynchronized
  subst hsz
  have hD := hD0.self (sz := s.heap.size)
  generalize hAe : va_A [] s.heap.size = A at hD ⊢
  have hA : ∀ q : Nat, s.heap.size ≤ q → A q := fun q h => by rw [← hAe]; exact Or.inr h
  have hS : va_S A s.heap s.heap [] := va_S.rf
  have hP : va_P D vwCl [] s.heap := hP
  have hl := lv_entry ([.int p0]) (n := 1) (Nat.le_of_ble_eq_true rfl)
  rw [lg_entry_eq]
  generalize (lg_sl ([.int p0]) ++ List.replicate (1 - (lg_sl ([.int p0])).length) Slot.unset).toArray = ls at hl ⊢
  have hl : lv_has ls 1 [(0, .int p0)] := hl
  refine lv_iload_n hx hb dX8_isHassock_0 rfl (lv_at hl 0 rfl) ?_
  refine lv_if_lt (tgt := 14) hx hb dX8_isHassock_1 (by decide) (fun c_ => ?_) (fun c_ => ?_)
  · replace vc := vc.1 c_
    refine lv_iconst (v := (0 : Int32)) hx hb dX8_isHassock_14 (by decide) ?_
    exact W.zret (v := (0 : Int32)) hx hb hr rfl (fun t ht hW => ⟨⟨(0 : Int32), (), rfl, vc, QB_mk (hP.sub [] rfl) (hD.sub [] rfl rfl) ht⟩, hS.F ht⟩) hS.2.2 dX8_isHassock_15
  · replace vc := vc.2 c_
    refine lv_iload_n hx hb dX8_isHassock_4 rfl (lv_at hl 0 rfl) ?_
    refine lv_bipush (v := (10 : Int32)) hx hb dX8_isHassock_5 (by decide) ?_
    refine lv_icmp_ge (tgt := 14) hx hb dX8_isHassock_7 (by decide) (fun c_ => ?_) (fun c_ => ?_)
    · replace vc := vc.1 c_
      refine lv_iconst (v := (0 : Int32)) hx hb dX8_isHassock_14 (by decide) ?_
      exact W.zret (v := (0 : Int32)) hx hb hr rfl (fun t ht hW => ⟨⟨(0 : Int32), (), rfl, vc, QB_mk (hP.sub [] rfl) (hD.sub [] rfl rfl) ht⟩, hS.F ht⟩) hS.2.2 dX8_isHassock_15
    · replace vc := vc.2 c_
      refine lv_iconst (v := (1 : Int32)) hx hb dX8_isHassock_10 (by decide) ?_
      refine lv_goto (tgt := 15) hx hb dX8_isHassock_11 (by decide) ?_
      exact W.zret (v := (1 : Int32)) hx hb hr rfl (fun t ht hW => ⟨⟨(1 : Int32), (), rfl, vc, QB_mk (hP.sub [] rfl) (hD.sub [] rfl rfl) ht⟩, hS.F ht⟩) hS.2.2 dX8_isHassock_15

theorem mwX1_isThere_1 : Cond.fieldLink RX1 9 "HassockSee$Diocese" "there" "I" ∈ wsX1_isThere := List.mem_of_getElem? (i := 1) rfl
theorem mwX1_isThere_2 : Cond.static yX8_isHassock ∈ wsX1_isThere := List.mem_of_getElem? (i := 2) rfl
theorem mwX1_isThere_3 : Cond.initialized RX8 ∈ wsX1_isThere := List.mem_of_getElem? (i := 3) rfl
theorem mwX1_isThere_5 : Cond.static yX8_isIn ∈ wsX1_isThere := List.mem_of_getElem? (i := 5) rfl
theorem mcX1_isThere_X1 : ∀ w ∈ u_ws RX1 TX1 6, w ∈ wsX1_isThere := fun _ h => (List.mem_cons_of_mem _ (List.mem_append_right _ h))
def KX1_isThere (l : Launch) (D : va_G) (cI cZ : ClassId) (P : Int32 → Int32 → Prop) (Q : Int32 → Int32 → Int32 → Prop) : Prop := ∀ (sz : Nat) (h_this h_this_wool h_this_stitches h_this_place : Nat) (p0 : Int32) (v_there : Int32) (v_hair : Int32) (v_year : Int32), P p0 v_there → MI l yX1_isThere wsX1_isThere ({ frames := 1, cells := 0, slots := 0, locals := 21 }) [.ref h_this, .int p0] D cI cZ sz [(h_this, .inr (1, [.int v_there, .int v_hair, .int v_year, .ref h_this_wool, .ref h_this_stitches, .ref h_this_place]))] (fun r (u : Unit) => Q p0 v_there r ) (fun u => [(h_this, .inr (1, [.int v_there, .int v_hair, .int v_year, .ref h_this_wool, .ref h_this_stitches, .ref h_this_place]))]) 0 0
set_option maxHeartbeats 4000000 in
set_option maxRecDepth 100000 in
theorem walkX1_isThere {l : Launch} {D : va_G} {cI cZ : ClassId} {PX1_isThere : Int32 → Int32 → Prop} {QX1_isThere : Int32 → Int32 → Int32 → Prop} {PX8_isHassock : Int32 → Prop} {QX8_isHassock : Int32 → Int32 → Prop} {PX8_isIn : Int32 → Int32 → Prop} {QX8_isIn : Int32 → Int32 → Int32 → Prop} (kX8_isHassock : KX8_isHassock l D cI cZ PX8_isHassock QX8_isHassock) (kX8_isIn : KX8_isIn l D cI cZ PX8_isIn QX8_isIn) (hvc : ∀ (p0 : Int32) (v_there : Int32), PX1_isThere p0 v_there → (PX8_isHassock p0 ∧ (∀ r_1 : Int32, QX8_isHassock p0 r_1 → ((r_1 = 0 → (QX1_isThere p0 v_there (0 : Int32) )) ∧ (¬ r_1 = 0 → (PX8_isIn v_there p0 ∧ (∀ r_2 : Int32, QX8_isIn v_there p0 r_2 → ((r_2 = 0 → (QX1_isThere p0 v_there (0 : Int32) )) ∧ (¬ r_2 = 0 → (QX1_isThere p0 v_there (1 : Int32) )))))))))) : KX1_isThere l D cI cZ PX1_isThere QX1_isThere := by
  intro sz h_this h_this_wool h_this_stitches h_this_place p0 v_there v_hair v_year hpre
  have vc := hvc p0 v_there hpre
  clear hvc
  refine Met.ofW (cc := cX1_isThere) (maxL := 2) (ret := (some .boolean)) (by decide) rfl ?_
  intro p e s m args below meth c s₁ B hml hv
  obtain ⟨rfl, hsz, hP, hK, hD0⟩ := hv
  have hx := B.exec
  have hb := B.bytes
  have hr := B.returns
  have hts := atoms_spec (ws := wsX1_isThere) B.pre
  have hown : s.vm.findClass RX1 = some m.cls := findClass_of_methodNamed B.named
  have hlocks := B.notSynchronized
  subst hsz
  have hD := hD0.self (sz := s.heap.size)
  generalize hAe : va_A [(h_this, .inr (1, [.int v_there, .int v_hair, .int v_year, .ref h_this_wool, .ref h_this_stitches, .ref h_this_place]))] s.heap.size = A at hD ⊢
  have hA : ∀ q : Nat, s.heap.size ≤ q → A q := fun q h => by rw [← hAe]; exact Or.inr h
  have hS : va_S A s.heap s.heap [] := va_S.rf
  have hP : va_P D vwCl [(h_this, .inr (1, [.int v_there, .int v_hair, .int v_year, .ref h_this_wool, .ref h_this_stitches, .ref h_this_place]))] s.heap := hP
  have hl := lv_entry ([.ref h_this, .int p0]) (n := 2) (Nat.le_of_ble_eq_true rfl)
  rw [lg_entry_eq]
  generalize (lg_sl ([.ref h_this, .int p0]) ++ List.replicate (2 - (lg_sl ([.ref h_this, .int p0])).length) Slot.unset).toArray = ls at hl ⊢
  have hl : lv_has ls 2 [(0, .ref h_this), (1, .int p0)] := hl
  refine lv_iload_n hx hb dX1_isThere_0 rfl (lv_at hl 1 rfl) ?_
  refine kj0_i (rest := []) (kSN ⟨hx, hb, hml, hown, hts⟩ (kX8_isHassock _ p0 vc.1) ⟨va_cnB 1 hts gX1_isThere_X8_isHassock_n31 rfl rfl rfl (KK_n7 hK) (hts _ mwX1_isThere_3) (by decide +kernel) ⟨(Nat.le_of_ble_eq_true rfl), (Nat.le_of_ble_eq_true rfl)⟩, (hts _ mwX1_isThere_2), trivial⟩ hK rfl rfl hl.1 (Nat.le_of_ble_eq_true rfl) dX1_isThere_1 ⟨(Nat.le_of_ble_eq_true rfl), (Nat.le_of_ble_eq_true rfl)⟩) hP hS hA (fun r_1 H locs hq_ hP hS => ?_)
  replace vc := vc.2 r_1 hq_
  have hP : va_P D vwCl [(h_this, .inr (1, [.int v_there, .int v_hair, .int v_year, .ref h_this_wool, .ref h_this_stitches, .ref h_this_place]))] H := hP
  refine lv_if_eq (tgt := 22) hx hb dX1_isThere_4 (by decide) (fun c_ => ?_) (fun c_ => ?_)
  · replace vc := vc.1 c_
    refine lv_iconst (v := (0 : Int32)) hx hb dX1_isThere_22 (by decide) ?_
    exact W.zret (v := (0 : Int32)) hx hb hr rfl (fun t ht hW => ⟨⟨(0 : Int32), (), rfl, vc, QB_mk (hP.sub [0] rfl) (hD.sub [0] rfl rfl) ht⟩, hS.F ht⟩) hS.2.2 dX1_isThere_23
  · replace vc := vc.2 c_
    refine lv_aload_n hx hb dX1_isThere_7 rfl (lv_at hl 0 rfl) ?_
    refine va_get (D := D) (ci := 1) (v := .int v_there) (C := RX1) (T := TX1) (N := 6) hx hb hts mcX1_isThere_X1 hown hK.1 hP 0 rfl rfl 0 (by decide) (hts _ mwX1_isThere_1) (fun _ h9 => h9) rfl dX1_isThere_8 ?_
    refine lv_iload_n hx hb dX1_isThere_11 rfl (lv_at hl 1 rfl) ?_
    refine kj0_i (rest := []) (kSN ⟨hx, hb, hml, hown, hts⟩ (kX8_isIn _ v_there p0 vc.1) ⟨va_cnB 2 hts gX1_isThere_X8_isIn_n35 rfl rfl rfl (KK_n8 hK) (hts _ mwX1_isThere_3) (by decide +kernel) ⟨(Nat.le_of_ble_eq_true rfl), (Nat.le_of_ble_eq_true rfl)⟩, (hts _ mwX1_isThere_5), trivial⟩ hK rfl rfl hl.1 (Nat.le_of_ble_eq_true rfl) dX1_isThere_12 ⟨(Nat.le_of_ble_eq_true rfl), (Nat.le_of_ble_eq_true rfl)⟩) hP hS hA (fun r_2 H locs hq_ hP hS => ?_)
    replace vc := vc.2 r_2 hq_
    have hP : va_P D vwCl [(h_this, .inr (1, [.int v_there, .int v_hair, .int v_year, .ref h_this_wool, .ref h_this_stitches, .ref h_this_place]))] H := hP
    refine lv_if_eq (tgt := 22) hx hb dX1_isThere_15 (by decide) (fun c_ => ?_) (fun c_ => ?_)
    · replace vc := vc.1 c_
      refine lv_iconst (v := (0 : Int32)) hx hb dX1_isThere_22 (by decide) ?_
      exact W.zret (v := (0 : Int32)) hx hb hr rfl (fun t ht hW => ⟨⟨(0 : Int32), (), rfl, vc, QB_mk (hP.sub [0] rfl) (hD.sub [0] rfl rfl) ht⟩, hS.F ht⟩) hS.2.2 dX1_isThere_23
    · replace vc := vc.2 c_
      refine lv_iconst (v := (1 : Int32)) hx hb dX1_isThere_18 (by decide) ?_
      refine lv_goto (tgt := 23) hx hb dX1_isThere_19 (by decide) ?_
      exact W.zret (v := (1 : Int32)) hx hb hr rfl (fun t ht hW => ⟨⟨(1 : Int32), (), rfl, vc, QB_mk (hP.sub [0] rfl) (hD.sub [0] rfl rfl) ht⟩, hS.F ht⟩) hS.2.2 dX1_isThere_23

theorem mwX1_howMany_1 : Cond.fieldLink RX1 9 "HassockSee$Diocese" "there" "I" ∈ wsX1_howMany := List.mem_of_getElem? (i := 1) rfl
theorem mcX1_howMany_X1 : ∀ w ∈ u_ws RX1 TX1 6, w ∈ wsX1_howMany := fun _ h => (List.mem_cons_of_mem _ (List.mem_append_right _ h))
def KX1_howMany (l : Launch) (D : va_G) (cI cZ : ClassId) (P : Int32 → Prop) (Q : Int32 → Int32 → Prop) : Prop := ∀ (sz : Nat) (h_this h_this_wool h_this_stitches h_this_place : Nat) (v_there : Int32) (v_hair : Int32) (v_year : Int32), P v_there → MI l yX1_howMany wsX1_howMany ({ frames := 1, cells := 0, slots := 0, locals := 20 }) [.ref h_this] D cI cZ sz [(h_this, .inr (1, [.int v_there, .int v_hair, .int v_year, .ref h_this_wool, .ref h_this_stitches, .ref h_this_place]))] (fun r (u : Unit) => Q v_there r ) (fun u => [(h_this, .inr (1, [.int v_there, .int v_hair, .int v_year, .ref h_this_wool, .ref h_this_stitches, .ref h_this_place]))]) 0 0
set_option maxHeartbeats 4000000 in
set_option maxRecDepth 100000 in
theorem walkX1_howMany {l : Launch} {D : va_G} {cI cZ : ClassId} {PX1_howMany : Int32 → Prop} {QX1_howMany : Int32 → Int32 → Prop} {PJ6_bitCount_0f7a4 : Int32 → Prop} {QJ6_bitCount_0f7a4 : Int32 → Int32 → Prop} (kJ6_bitCount_0f7a4 : KJ6_bitCount_0f7a4 l D cI cZ PJ6_bitCount_0f7a4 QJ6_bitCount_0f7a4) (hvc : ∀ (v_there : Int32), PX1_howMany v_there → (PJ6_bitCount_0f7a4 v_there ∧ (∀ r_1 : Int32, QJ6_bitCount_0f7a4 v_there r_1 → (QX1_howMany v_there r_1 )))) : KX1_howMany l D cI cZ PX1_howMany QX1_howMany := by
  intro sz h_this h_this_wool h_this_stitches h_this_place v_there v_hair v_year hpre
  have vc := hvc v_there hpre
  clear hvc
  refine Met.ofW (cc := cX1_howMany) (maxL := 1) (ret := (some .int)) (by decide) rfl ?_
  intro p e s m args below meth c s₁ B hml hv
  obtain ⟨rfl, hsz, hP, hK, hD0⟩ := hv
  have hx := B.exec
  have hb := B.bytes
  have hr := B.returns
  have hts := atoms_spec (ws := wsX1_howMany) B.pre
  have hown : s.vm.findClass RX1 = some m.cls := findClass_of_methodNamed B.named
  have hlocks := B.notSynchronized
  subst hsz
  have hD := hD0.self (sz := s.heap.size)
  generalize hAe : va_A [(h_this, .inr (1, [.int v_there, .int v_hair, .int v_year, .ref h_this_wool, .ref h_this_stitches, .ref h_this_place]))] s.heap.size = A at hD ⊢
  have hA : ∀ q : Nat, s.heap.size ≤ q → A q := fun q h => by rw [← hAe]; exact Or.inr h
  have hS : va_S A s.heap s.heap [] := va_S.rf
  have hP : va_P D vwCl [(h_this, .inr (1, [.int v_there, .int v_hair, .int v_year, .ref h_this_wool, .ref h_this_stitches, .ref h_this_place]))] s.heap := hP
  have hl := lv_entry ([.ref h_this]) (n := 1) (Nat.le_of_ble_eq_true rfl)
  rw [lg_entry_eq]
  generalize (lg_sl ([.ref h_this]) ++ List.replicate (1 - (lg_sl ([.ref h_this])).length) Slot.unset).toArray = ls at hl ⊢
  have hl : lv_has ls 1 [(0, .ref h_this)] := hl
  refine lv_aload_n hx hb dX1_howMany_0 rfl (lv_at hl 0 rfl) ?_
  refine va_get (D := D) (ci := 1) (v := .int v_there) (C := RX1) (T := TX1) (N := 6) hx hb hts mcX1_howMany_X1 hown hK.1 hP 0 rfl rfl 0 (by decide) (hts _ mwX1_howMany_1) (fun _ h9 => h9) rfl dX1_howMany_1 ?_
  refine kj0_i (rest := []) (kS ⟨hx, hb, hml, hown, hts⟩ (kJ6_bitCount_0f7a4 _ v_there vc.1) (va_cwS 1 hts gX1_howMany_J6_bitCount_0f7a4 rfl rfl rfl (by decide +kernel) ⟨(Nat.le_of_ble_eq_true rfl), (Nat.le_of_ble_eq_true rfl)⟩) hK rfl rfl hl.1 (Nat.le_of_ble_eq_true rfl) dX1_howMany_4 ⟨(Nat.le_of_ble_eq_true rfl), (Nat.le_of_ble_eq_true rfl)⟩) hP hS hA (fun r_1 H locs hq_ hP hS => ?_)
  replace vc := vc.2 r_1 hq_
  have hP : va_P D vwCl [(h_this, .inr (1, [.int v_there, .int v_hair, .int v_year, .ref h_this_wool, .ref h_this_stitches, .ref h_this_place]))] H := hP
  exact W.iret (v := r_1) hx hb hr (fun t ht hW => ⟨⟨r_1, (), rfl, vc, QB_mk (hP.sub [0] rfl) (hD.sub [0] rfl rfl) ht⟩, hS.F ht⟩) hS.2.2 dX1_howMany_7

theorem mwX1_bring_1 : Cond.fieldLink RX1 9 "HassockSee$Diocese" "there" "I" ∈ wsX1_bring := List.mem_of_getElem? (i := 1) rfl
theorem mwX1_bring_2 : Cond.fieldLink RX1 21 "HassockSee$Diocese" "wool" "[I" ∈ wsX1_bring := List.mem_of_getElem? (i := 2) rfl
theorem mwX1_bring_3 : Cond.fieldLink RX1 25 "HassockSee$Diocese" "stitches" "[I" ∈ wsX1_bring := List.mem_of_getElem? (i := 3) rfl
theorem mcX1_bring_X1 : ∀ w ∈ u_ws RX1 TX1 6, w ∈ wsX1_bring := fun _ h => (List.mem_cons_of_mem _ (List.mem_append_right _ h))
def KX1_bring (l : Launch) (D : va_G) (cI cZ : ClassId) (P : Int32 → Int32 → Int32 → Int32 → (Nat → Int32) → (Nat → Int32) → Prop) (Q : Int32 → Int32 → Int32 → Int32 → (Nat → Int32) → (Nat → Int32) → Int32 → (Nat → Int32) → (Nat → Int32) → Prop) : Prop := ∀ (sz : Nat) (h_this h_this_wool h_this_stitches h_this_place : Nat) (p0 : Int32) (p1 : Int32) (p2 : Int32) (v_there : Int32) (v_hair : Int32) (v_year : Int32) (v_stitches : (Nat → Int32)) (v_wool : (Nat → Int32)), P p0 p1 p2 v_there v_stitches v_wool → MV l yX1_bring wsX1_bring ({ frames := 0, cells := 0, slots := 0, locals := 0 }) [.ref h_this, .int p0, .int p1, .int p2] D cI cZ sz [(h_this, .inr (1, [.int v_there, .int v_hair, .int v_year, .ref h_this_wool, .ref h_this_stitches, .ref h_this_place])), (h_this_stitches, .inl (cI, 10, .inl v_stitches)), (h_this_wool, .inl (cI, 10, .inl v_wool))] (fun (u : Int32 × (Nat → Int32) × (Nat → Int32)) => Q p0 p1 p2 v_there v_stitches v_wool (u.1) (u.2.1) (u.2.2)) (fun u => [(h_this, .inr (1, [.int (u.1), .int v_hair, .int v_year, .ref h_this_wool, .ref h_this_stitches, .ref h_this_place])), (h_this_stitches, .inl (cI, 10, .inl (u.2.1))), (h_this_wool, .inl (cI, 10, .inl (u.2.2)))]) 0 0
set_option maxHeartbeats 4000000 in
set_option maxRecDepth 100000 in
theorem walkX1_bring {l : Launch} {D : va_G} {cI cZ : ClassId} {PX1_bring : Int32 → Int32 → Int32 → Int32 → (Nat → Int32) → (Nat → Int32) → Prop} {QX1_bring : Int32 → Int32 → Int32 → Int32 → (Nat → Int32) → (Nat → Int32) → Int32 → (Nat → Int32) → (Nat → Int32) → Prop}  (hvc : ∀ (p0 : Int32) (p1 : Int32) (p2 : Int32) (v_there : Int32) (v_stitches : (Nat → Int32)) (v_wool : (Nat → Int32)), PX1_bring p0 p1 p2 v_there v_stitches v_wool → (∀ x_1 : Int32, x_1 = (v_there ||| ((1 : Int32) <<< (p0 &&& 31))) → (vp_in p0 10 ∧ (vp_in p0 10 ∧ (QX1_bring p0 p1 p2 v_there v_stitches v_wool x_1 (upd v_stitches (p0).toNatClampNeg p2) (upd v_wool (p0).toNatClampNeg p1)))))) : KX1_bring l D cI cZ PX1_bring QX1_bring := by
  intro sz h_this h_this_wool h_this_stitches h_this_place p0 p1 p2 v_there v_hair v_year v_stitches v_wool hpre
  have vc := hvc p0 p1 p2 v_there v_stitches v_wool hpre
  clear hvc
  refine Met.ofW (cc := cX1_bring) (maxL := 4) (ret := none) (by decide) rfl ?_
  intro p e s m args below meth c s₁ B hml hv
  obtain ⟨rfl, hsz, hP, hK, hD0⟩ := hv
  have hx := B.exec
  have hb := B.bytes
  have hr := B.returns
  have hts := atoms_spec (ws := wsX1_bring) B.pre
  have hown : s.vm.findClass RX1 = some m.cls := findClass_of_methodNamed B.named
  have hlocks := B.notSynchronized
  subst hsz
  have hD := hD0.self (sz := s.heap.size)
  generalize hAe : va_A [(h_this, .inr (1, [.int v_there, .int v_hair, .int v_year, .ref h_this_wool, .ref h_this_stitches, .ref h_this_place])), (h_this_stitches, .inl (cI, 10, .inl v_stitches)), (h_this_wool, .inl (cI, 10, .inl v_wool))] s.heap.size = A at hD ⊢
  have hA : ∀ q : Nat, s.heap.size ≤ q → A q := fun q h => by rw [← hAe]; exact Or.inr h
  have hS : va_S A s.heap s.heap [] := va_S.rf
  have hP : va_P D vwCl [(h_this, .inr (1, [.int v_there, .int v_hair, .int v_year, .ref h_this_wool, .ref h_this_stitches, .ref h_this_place])), (h_this_stitches, .inl (cI, 10, .inl v_stitches)), (h_this_wool, .inl (cI, 10, .inl v_wool))] s.heap := hP
  have hl := lv_entry ([.ref h_this, .int p0, .int p1, .int p2]) (n := 4) (Nat.le_of_ble_eq_true rfl)
  rw [lg_entry_eq]
  generalize (lg_sl ([.ref h_this, .int p0, .int p1, .int p2]) ++ List.replicate (4 - (lg_sl ([.ref h_this, .int p0, .int p1, .int p2])).length) Slot.unset).toArray = ls at hl ⊢
  have hl : lv_has ls 4 [(0, .ref h_this), (1, .int p0), (2, .int p1), (3, .int p2)] := hl
  refine lv_aload_n hx hb dX1_bring_0 rfl (lv_at hl 0 rfl) ?_
  refine lv_dup hx hb dX1_bring_1 rfl ?_
  refine va_get (D := D) (ci := 1) (v := .int v_there) (C := RX1) (T := TX1) (N := 6) hx hb hts mcX1_bring_X1 hown hK.1 hP 0 rfl rfl 0 (by decide) (hts _ mwX1_bring_1) (fun _ h9 => h9) rfl dX1_bring_2 ?_
  refine lv_iconst (v := (1 : Int32)) hx hb dX1_bring_5 (by decide) ?_
  refine lv_iload_n hx hb dX1_bring_6 rfl (lv_at hl 1 rfl) ?_
  refine lv_ishl hx hb dX1_bring_7 ?_
  refine lv_ior hx hb dX1_bring_8 ?_
  refine lv_topi (fun x_1 ex_1 => ?_)
  replace vc := vc x_1 ex_1
  refine va_put (D := D) (ci := 1) (v := .int x_1) (ty := .int) (C := RX1) (T := TX1) (N := 6) hx hb hts mcX1_bring_X1 tyX1 tyX1_ok nmX1 hown hK.1 hP hD hS 0 rfl rfl 0 (by decide) (hts _ mwX1_bring_1) (fun _ h9 => h9) rfl (by decide +kernel) rfl rfl (Nat.le_of_ble_eq_true rfl) dX1_bring_9 (fun H locs hP hD hS => ?_)
  have hP : va_P D vwCl [(h_this, .inr (1, [.int x_1, .int v_hair, .int v_year, .ref h_this_wool, .ref h_this_stitches, .ref h_this_place])), (h_this_stitches, .inl (cI, 10, .inl v_stitches)), (h_this_wool, .inl (cI, 10, .inl v_wool))] H := hP
  have hD : va_D A [(h_this, .inr (1, [.int x_1, .int v_hair, .int v_year, .ref h_this_wool, .ref h_this_stitches, .ref h_this_place])), (h_this_stitches, .inl (cI, 10, .inl v_stitches)), (h_this_wool, .inl (cI, 10, .inl v_wool))] := hD
  refine lv_aload_n hx hb dX1_bring_12 rfl (lv_at hl 0 rfl) ?_
  refine va_get (D := D) (ci := 1) (v := .ref h_this_wool) (C := RX1) (T := TX1) (N := 6) hx hb hts mcX1_bring_X1 hown hK.1 hP 0 rfl rfl 3 (by decide) (hts _ mwX1_bring_2) (fun _ h9 => h9) rfl dX1_bring_13 ?_
  refine lv_iload_n hx hb dX1_bring_16 rfl (lv_at hl 1 rfl) ?_
  refine lv_iload_n hx hb dX1_bring_17 rfl (lv_at hl 2 rfl) ?_
  have hi_2 := vc.1
  replace vc := vc.2
  refine va_iast hx hb hK.1 hP hD hS 2 0 rfl rfl hi_2 dX1_bring_18 (fun H locs hP hD hS => ?_)
  have hP : va_P D vwCl [(h_this, .inr (1, [.int x_1, .int v_hair, .int v_year, .ref h_this_wool, .ref h_this_stitches, .ref h_this_place])), (h_this_stitches, .inl (cI, 10, .inl v_stitches)), (h_this_wool, .inl (cI, 10, .inl (upd v_wool (p0).toNatClampNeg p1)))] H := hP
  have hD : va_D A [(h_this, .inr (1, [.int x_1, .int v_hair, .int v_year, .ref h_this_wool, .ref h_this_stitches, .ref h_this_place])), (h_this_stitches, .inl (cI, 10, .inl v_stitches)), (h_this_wool, .inl (cI, 10, .inl (upd v_wool (p0).toNatClampNeg p1)))] := hD
  refine lv_aload_n hx hb dX1_bring_19 rfl (lv_at hl 0 rfl) ?_
  refine va_get (D := D) (ci := 1) (v := .ref h_this_stitches) (C := RX1) (T := TX1) (N := 6) hx hb hts mcX1_bring_X1 hown hK.1 hP 0 rfl rfl 4 (by decide) (hts _ mwX1_bring_3) (fun _ h9 => h9) rfl dX1_bring_20 ?_
  refine lv_iload_n hx hb dX1_bring_23 rfl (lv_at hl 1 rfl) ?_
  refine lv_iload_n hx hb dX1_bring_24 rfl (lv_at hl 3 rfl) ?_
  have hi_3 := vc.1
  replace vc := vc.2
  refine va_iast hx hb hK.1 hP hD hS 1 0 rfl rfl hi_3 dX1_bring_25 (fun H locs hP hD hS => ?_)
  have hP : va_P D vwCl [(h_this, .inr (1, [.int x_1, .int v_hair, .int v_year, .ref h_this_wool, .ref h_this_stitches, .ref h_this_place])), (h_this_stitches, .inl (cI, 10, .inl (upd v_stitches (p0).toNatClampNeg p2))), (h_this_wool, .inl (cI, 10, .inl (upd v_wool (p0).toNatClampNeg p1)))] H := hP
  have hD : va_D A [(h_this, .inr (1, [.int x_1, .int v_hair, .int v_year, .ref h_this_wool, .ref h_this_stitches, .ref h_this_place])), (h_this_stitches, .inl (cI, 10, .inl (upd v_stitches (p0).toNatClampNeg p2))), (h_this_wool, .inl (cI, 10, .inl (upd v_wool (p0).toNatClampNeg p1)))] := hD
  exact W.vret hx hb hr (fun t ht hW => ⟨⟨(x_1, (upd v_stitches (p0).toNatClampNeg p2), (upd v_wool (p0).toNatClampNeg p1)), rfl, vc, QB_mk (hP.sub [0, 1, 2] rfl) (hD.sub [0, 1, 2] rfl rfl) ht⟩, hS.F ht⟩) hS.2.2 dX1_bring_26

theorem mwX1_takeAway_1 : Cond.fieldLink RX1 9 "HassockSee$Diocese" "there" "I" ∈ wsX1_takeAway := List.mem_of_getElem? (i := 1) rfl
theorem mcX1_takeAway_X1 : ∀ w ∈ u_ws RX1 TX1 6, w ∈ wsX1_takeAway := fun _ h => (List.mem_cons_of_mem _ (List.mem_append_right _ h))
def KX1_takeAway (l : Launch) (D : va_G) (cI cZ : ClassId) (P : Int32 → Int32 → Prop) (Q : Int32 → Int32 → Int32 → Prop) : Prop := ∀ (sz : Nat) (h_this h_this_wool h_this_stitches h_this_place : Nat) (p0 : Int32) (v_there : Int32) (v_hair : Int32) (v_year : Int32), P p0 v_there → MV l yX1_takeAway wsX1_takeAway ({ frames := 0, cells := 0, slots := 0, locals := 0 }) [.ref h_this, .int p0] D cI cZ sz [(h_this, .inr (1, [.int v_there, .int v_hair, .int v_year, .ref h_this_wool, .ref h_this_stitches, .ref h_this_place]))] (fun (u : Int32) => Q p0 v_there u) (fun u => [(h_this, .inr (1, [.int u, .int v_hair, .int v_year, .ref h_this_wool, .ref h_this_stitches, .ref h_this_place]))]) 0 0
set_option maxHeartbeats 4000000 in
set_option maxRecDepth 100000 in
theorem walkX1_takeAway {l : Launch} {D : va_G} {cI cZ : ClassId} {PX1_takeAway : Int32 → Int32 → Prop} {QX1_takeAway : Int32 → Int32 → Int32 → Prop}  (hvc : ∀ (p0 : Int32) (v_there : Int32), PX1_takeAway p0 v_there → (∀ x_1 : Int32, x_1 = (v_there &&& (((1 : Int32) <<< (p0 &&& 31)) ^^^ (-1 : Int32))) → (QX1_takeAway p0 v_there x_1))) : KX1_takeAway l D cI cZ PX1_takeAway QX1_takeAway := by
  intro sz h_this h_this_wool h_this_stitches h_this_place p0 v_there v_hair v_year hpre
  have vc := hvc p0 v_there hpre
  clear hvc
  refine Met.ofW (cc := cX1_takeAway) (maxL := 2) (ret := none) (by decide) rfl ?_
  intro p e s m args below meth c s₁ B hml hv
  obtain ⟨rfl, hsz, hP, hK, hD0⟩ := hv
  have hx := B.exec
  have hb := B.bytes
  have hr := B.returns
  have hts := atoms_spec (ws := wsX1_takeAway) B.pre
  have hown : s.vm.findClass RX1 = some m.cls := findClass_of_methodNamed B.named
  have hlocks := B.notSynchronized
  subst hsz
  have hD := hD0.self (sz := s.heap.size)
  generalize hAe : va_A [(h_this, .inr (1, [.int v_there, .int v_hair, .int v_year, .ref h_this_wool, .ref h_this_stitches, .ref h_this_place]))] s.heap.size = A at hD ⊢
  have hA : ∀ q : Nat, s.heap.size ≤ q → A q := fun q h => by rw [← hAe]; exact Or.inr h
  have hS : va_S A s.heap s.heap [] := va_S.rf
  have hP : va_P D vwCl [(h_this, .inr (1, [.int v_there, .int v_hair, .int v_year, .ref h_this_wool, .ref h_this_stitches, .ref h_this_place]))] s.heap := hP
  have hl := lv_entry ([.ref h_this, .int p0]) (n := 2) (Nat.le_of_ble_eq_true rfl)
  rw [lg_entry_eq]
  generalize (lg_sl ([.ref h_this, .int p0]) ++ List.replicate (2 - (lg_sl ([.ref h_this, .int p0])).length) Slot.unset).toArray = ls at hl ⊢
  have hl : lv_has ls 2 [(0, .ref h_this), (1, .int p0)] := hl
  refine lv_aload_n hx hb dX1_takeAway_0 rfl (lv_at hl 0 rfl) ?_
  refine lv_dup hx hb dX1_takeAway_1 rfl ?_
  refine va_get (D := D) (ci := 1) (v := .int v_there) (C := RX1) (T := TX1) (N := 6) hx hb hts mcX1_takeAway_X1 hown hK.1 hP 0 rfl rfl 0 (by decide) (hts _ mwX1_takeAway_1) (fun _ h9 => h9) rfl dX1_takeAway_2 ?_
  refine lv_iconst (v := (1 : Int32)) hx hb dX1_takeAway_5 (by decide) ?_
  refine lv_iload_n hx hb dX1_takeAway_6 rfl (lv_at hl 1 rfl) ?_
  refine lv_ishl hx hb dX1_takeAway_7 ?_
  refine lv_iconst (v := (-1 : Int32)) hx hb dX1_takeAway_8 (by decide) ?_
  refine lv_ixor hx hb dX1_takeAway_9 ?_
  refine lv_iand hx hb dX1_takeAway_10 ?_
  refine lv_topi (fun x_1 ex_1 => ?_)
  replace vc := vc x_1 ex_1
  refine va_put (D := D) (ci := 1) (v := .int x_1) (ty := .int) (C := RX1) (T := TX1) (N := 6) hx hb hts mcX1_takeAway_X1 tyX1 tyX1_ok nmX1 hown hK.1 hP hD hS 0 rfl rfl 0 (by decide) (hts _ mwX1_takeAway_1) (fun _ h9 => h9) rfl (by decide +kernel) rfl rfl (Nat.le_of_ble_eq_true rfl) dX1_takeAway_11 (fun H locs hP hD hS => ?_)
  have hP : va_P D vwCl [(h_this, .inr (1, [.int x_1, .int v_hair, .int v_year, .ref h_this_wool, .ref h_this_stitches, .ref h_this_place]))] H := hP
  have hD : va_D A [(h_this, .inr (1, [.int x_1, .int v_hair, .int v_year, .ref h_this_wool, .ref h_this_stitches, .ref h_this_place]))] := hD
  exact W.vret hx hb hr (fun t ht hW => ⟨⟨(x_1), rfl, vc, QB_mk (hP.sub [0] rfl) (hD.sub [0] rfl rfl) ht⟩, hS.F ht⟩) hS.2.2 dX1_takeAway_14

theorem mwX1_changePlaces_1 : Cond.fieldLink RX1 28 "HassockSee$Diocese" "place" "[I" ∈ wsX1_changePlaces := List.mem_of_getElem? (i := 1) rfl
theorem mcX1_changePlaces_X1 : ∀ w ∈ u_ws RX1 TX1 6, w ∈ wsX1_changePlaces := fun _ h => (List.mem_cons_of_mem _ (List.mem_append_right _ h))
def KX1_changePlaces (l : Launch) (D : va_G) (cI cZ : ClassId) (P : Int32 → Int32 → (Nat → Int32) → Prop) (Q : Int32 → Int32 → (Nat → Int32) → (Nat → Int32) → Prop) : Prop := ∀ (sz : Nat) (h_this h_this_wool h_this_stitches h_this_place : Nat) (p0 : Int32) (p1 : Int32) (v_there : Int32) (v_hair : Int32) (v_year : Int32) (v_place : (Nat → Int32)), P p0 p1 v_place → MV l yX1_changePlaces wsX1_changePlaces ({ frames := 0, cells := 0, slots := 0, locals := 0 }) [.ref h_this, .int p0, .int p1] D cI cZ sz [(h_this, .inr (1, [.int v_there, .int v_hair, .int v_year, .ref h_this_wool, .ref h_this_stitches, .ref h_this_place])), (h_this_place, .inl (cI, 10, .inl v_place))] (fun (u : (Nat → Int32)) => Q p0 p1 v_place u) (fun u => [(h_this, .inr (1, [.int v_there, .int v_hair, .int v_year, .ref h_this_wool, .ref h_this_stitches, .ref h_this_place])), (h_this_place, .inl (cI, 10, .inl u))]) 0 0
set_option maxHeartbeats 4000000 in
set_option maxRecDepth 100000 in
theorem walkX1_changePlaces {l : Launch} {D : va_G} {cI cZ : ClassId} {PX1_changePlaces : Int32 → Int32 → (Nat → Int32) → Prop} {QX1_changePlaces : Int32 → Int32 → (Nat → Int32) → (Nat → Int32) → Prop}  (hvc : ∀ (p0 : Int32) (p1 : Int32) (v_place : (Nat → Int32)), PX1_changePlaces p0 p1 v_place → (vp_in p0 10 ∧ (∀ x_2 : Int32, x_2 = (v_place (p0).toNatClampNeg) → (vp_in p1 10 ∧ (∀ x_4 : Int32, x_4 = (v_place (p1).toNatClampNeg) → (vp_in p0 10 ∧ (vp_in p1 10 ∧ (QX1_changePlaces p0 p1 v_place (upd (upd v_place (p0).toNatClampNeg x_4) (p1).toNatClampNeg x_2))))))))) : KX1_changePlaces l D cI cZ PX1_changePlaces QX1_changePlaces := by
  intro sz h_this h_this_wool h_this_stitches h_this_place p0 p1 v_there v_hair v_year v_place hpre
  have vc := hvc p0 p1 v_place hpre
  clear hvc
  refine Met.ofW (cc := cX1_changePlaces) (maxL := 4) (ret := none) (by decide) rfl ?_
  intro p e s m args below meth c s₁ B hml hv
  obtain ⟨rfl, hsz, hP, hK, hD0⟩ := hv
  have hx := B.exec
  have hb := B.bytes
  have hr := B.returns
  have hts := atoms_spec (ws := wsX1_changePlaces) B.pre
  have hown : s.vm.findClass RX1 = some m.cls := findClass_of_methodNamed B.named
  have hlocks := B.notSynchronized
  subst hsz
  have hD := hD0.self (sz := s.heap.size)
  generalize hAe : va_A [(h_this, .inr (1, [.int v_there, .int v_hair, .int v_year, .ref h_this_wool, .ref h_this_stitches, .ref h_this_place])), (h_this_place, .inl (cI, 10, .inl v_place))] s.heap.size = A at hD ⊢
  have hA : ∀ q : Nat, s.heap.size ≤ q → A q := fun q h => by rw [← hAe]; exact Or.inr h
  have hS : va_S A s.heap s.heap [] := va_S.rf
  have hP : va_P D vwCl [(h_this, .inr (1, [.int v_there, .int v_hair, .int v_year, .ref h_this_wool, .ref h_this_stitches, .ref h_this_place])), (h_this_place, .inl (cI, 10, .inl v_place))] s.heap := hP
  have hl := lv_entry ([.ref h_this, .int p0, .int p1]) (n := 4) (Nat.le_of_ble_eq_true rfl)
  rw [lg_entry_eq]
  generalize (lg_sl ([.ref h_this, .int p0, .int p1]) ++ List.replicate (4 - (lg_sl ([.ref h_this, .int p0, .int p1])).length) Slot.unset).toArray = ls at hl ⊢
  have hl : lv_has ls 4 [(0, .ref h_this), (1, .int p0), (2, .int p1)] := hl
  refine lv_aload_n hx hb dX1_changePlaces_0 rfl (lv_at hl 0 rfl) ?_
  refine va_get (D := D) (ci := 1) (v := .ref h_this_place) (C := RX1) (T := TX1) (N := 6) hx hb hts mcX1_changePlaces_X1 hown hK.1 hP 0 rfl rfl 5 (by decide) (hts _ mwX1_changePlaces_1) (fun _ h9 => h9) rfl dX1_changePlaces_1 ?_
  refine lv_iload_n hx hb dX1_changePlaces_4 rfl (lv_at hl 1 rfl) ?_
  have hi_1 := vc.1
  replace vc := vc.2
  refine va_iald hx hb hK.1 hP 1 0 rfl rfl hi_1 dX1_changePlaces_5 ?_
  refine lv_topi (fun x_2 ex_2 => ?_)
  replace vc := vc x_2 ex_2
  refine lv_istore_n (lv' := [(3, .int x_2), (0, .ref h_this), (1, .int p0), (2, .int p1)]) hx hb dX1_changePlaces_6 rfl hl (by decide) rfl (fun ls hl => ?_)
  refine lv_aload_n hx hb dX1_changePlaces_7 rfl (lv_at hl 1 rfl) ?_
  refine va_get (D := D) (ci := 1) (v := .ref h_this_place) (C := RX1) (T := TX1) (N := 6) hx hb hts mcX1_changePlaces_X1 hown hK.1 hP 0 rfl rfl 5 (by decide) (hts _ mwX1_changePlaces_1) (fun _ h9 => h9) rfl dX1_changePlaces_8 ?_
  refine lv_iload_n hx hb dX1_changePlaces_11 rfl (lv_at hl 2 rfl) ?_
  refine lv_aload_n hx hb dX1_changePlaces_12 rfl (lv_at hl 1 rfl) ?_
  refine va_get (D := D) (ci := 1) (v := .ref h_this_place) (C := RX1) (T := TX1) (N := 6) hx hb hts mcX1_changePlaces_X1 hown hK.1 hP 0 rfl rfl 5 (by decide) (hts _ mwX1_changePlaces_1) (fun _ h9 => h9) rfl dX1_changePlaces_13 ?_
  refine lv_iload_n hx hb dX1_changePlaces_16 rfl (lv_at hl 3 rfl) ?_
  have hi_3 := vc.1
  replace vc := vc.2
  refine va_iald hx hb hK.1 hP 1 0 rfl rfl hi_3 dX1_changePlaces_17 ?_
  refine lv_topi (fun x_4 ex_4 => ?_)
  replace vc := vc x_4 ex_4
  have hi_5 := vc.1
  replace vc := vc.2
  refine va_iast hx hb hK.1 hP hD hS 1 0 rfl rfl hi_5 dX1_changePlaces_18 (fun H locs hP hD hS => ?_)
  have hP : va_P D vwCl [(h_this, .inr (1, [.int v_there, .int v_hair, .int v_year, .ref h_this_wool, .ref h_this_stitches, .ref h_this_place])), (h_this_place, .inl (cI, 10, .inl (upd v_place (p0).toNatClampNeg x_4)))] H := hP
  have hD : va_D A [(h_this, .inr (1, [.int v_there, .int v_hair, .int v_year, .ref h_this_wool, .ref h_this_stitches, .ref h_this_place])), (h_this_place, .inl (cI, 10, .inl (upd v_place (p0).toNatClampNeg x_4)))] := hD
  refine lv_aload_n hx hb dX1_changePlaces_19 rfl (lv_at hl 1 rfl) ?_
  refine va_get (D := D) (ci := 1) (v := .ref h_this_place) (C := RX1) (T := TX1) (N := 6) hx hb hts mcX1_changePlaces_X1 hown hK.1 hP 0 rfl rfl 5 (by decide) (hts _ mwX1_changePlaces_1) (fun _ h9 => h9) rfl dX1_changePlaces_20 ?_
  refine lv_iload_n hx hb dX1_changePlaces_23 rfl (lv_at hl 3 rfl) ?_
  refine lv_iload_n hx hb dX1_changePlaces_24 rfl (lv_at hl 0 rfl) ?_
  have hi_6 := vc.1
  replace vc := vc.2
  refine va_iast hx hb hK.1 hP hD hS 1 0 rfl rfl hi_6 dX1_changePlaces_25 (fun H locs hP hD hS => ?_)
  have hP : va_P D vwCl [(h_this, .inr (1, [.int v_there, .int v_hair, .int v_year, .ref h_this_wool, .ref h_this_stitches, .ref h_this_place])), (h_this_place, .inl (cI, 10, .inl (upd (upd v_place (p0).toNatClampNeg x_4) (p1).toNatClampNeg x_2)))] H := hP
  have hD : va_D A [(h_this, .inr (1, [.int v_there, .int v_hair, .int v_year, .ref h_this_wool, .ref h_this_stitches, .ref h_this_place])), (h_this_place, .inl (cI, 10, .inl (upd (upd v_place (p0).toNatClampNeg x_4) (p1).toNatClampNeg x_2)))] := hD
  exact W.vret hx hb hr (fun t ht hW => ⟨⟨((upd (upd v_place (p0).toNatClampNeg x_4) (p1).toNatClampNeg x_2)), rfl, vc, QB_mk (hP.sub [0, 1] rfl) (hD.sub [0, 1] rfl rfl) ht⟩, hS.F ht⟩) hS.2.2 dX1_changePlaces_26

theorem mwX1_stitchesInAll_1 : Cond.fieldLink RX1 9 "HassockSee$Diocese" "there" "I" ∈ wsX1_stitchesInAll := List.mem_of_getElem? (i := 1) rfl
theorem mwX1_stitchesInAll_2 : Cond.fieldLink RX1 25 "HassockSee$Diocese" "stitches" "[I" ∈ wsX1_stitchesInAll := List.mem_of_getElem? (i := 2) rfl
theorem mwX1_stitchesInAll_3 : Cond.static yX8_isIn ∈ wsX1_stitchesInAll := List.mem_of_getElem? (i := 3) rfl
theorem mwX1_stitchesInAll_4 : Cond.initialized RX8 ∈ wsX1_stitchesInAll := List.mem_of_getElem? (i := 4) rfl
theorem mcX1_stitchesInAll_X1 : ∀ w ∈ u_ws RX1 TX1 6, w ∈ wsX1_stitchesInAll := fun _ h => (List.mem_cons_of_mem _ (List.mem_append_right _ h))
def KX1_stitchesInAll (l : Launch) (D : va_G) (cI cZ : ClassId) (P : Int32 → (Nat → Int32) → Prop) (Q : Int32 → (Nat → Int32) → Int32 → Prop) : Prop := ∀ (sz : Nat) (h_this h_this_wool h_this_stitches h_this_place : Nat) (v_there : Int32) (v_hair : Int32) (v_year : Int32) (v_stitches : (Nat → Int32)), P v_there v_stitches → MI l yX1_stitchesInAll wsX1_stitchesInAll ({ frames := 1, cells := 0, slots := 0, locals := 21 }) [.ref h_this] D cI cZ sz [(h_this, .inr (1, [.int v_there, .int v_hair, .int v_year, .ref h_this_wool, .ref h_this_stitches, .ref h_this_place])), (h_this_stitches, .inl (cI, 10, .inl v_stitches))] (fun r (u : Unit) => Q v_there v_stitches r ) (fun u => [(h_this, .inr (1, [.int v_there, .int v_hair, .int v_year, .ref h_this_wool, .ref h_this_stitches, .ref h_this_place])), (h_this_stitches, .inl (cI, 10, .inl v_stitches))]) 0 0
set_option maxHeartbeats 4000000 in
set_option maxRecDepth 100000 in
theorem walkX1_stitchesInAll {l : Launch} {D : va_G} {cI cZ : ClassId} {PX1_stitchesInAll : Int32 → (Nat → Int32) → Prop} {QX1_stitchesInAll : Int32 → (Nat → Int32) → Int32 → Prop} {PX8_isIn : Int32 → Int32 → Prop} {QX8_isIn : Int32 → Int32 → Int32 → Prop} {PJ6_bitCount_0f7a4 : Int32 → Prop} {QJ6_bitCount_0f7a4 : Int32 → Int32 → Prop} (kX8_isIn : KX8_isIn l D cI cZ PX8_isIn QX8_isIn) (kJ6_bitCount_0f7a4 : KJ6_bitCount_0f7a4 l D cI cZ PJ6_bitCount_0f7a4 QJ6_bitCount_0f7a4) (IX1_stitchesInAll_4 : Int32 → (Nat → Int32) → Nat → Int32 → Int32 → Prop) (hvc : ∀ (v_there : Int32) (v_stitches : (Nat → Int32)), PX1_stitchesInAll v_there v_stitches → ((∃ n0 : Nat, IX1_stitchesInAll_4 v_there v_stitches n0 (0 : Int32) (0 : Int32)) ∧ (∀ (n_1 : Nat) (i_2 : Int32) (i_3 : Int32), (IX1_stitchesInAll_4 v_there v_stitches n_1 i_3 i_2 → (((10 : Int32) ≤ i_2 → (QX1_stitchesInAll v_there v_stitches i_3 )) ∧ (¬ (10 : Int32) ≤ i_2 → (PX8_isIn v_there i_2 ∧ (∀ r_4 : Int32, QX8_isIn v_there i_2 r_4 → ((r_4 = 0 → (∀ x_5 : Int32, x_5 = (i_2 + (1 : Int32)) → (∃ n1 : Nat, n1 < n_1 ∧ IX1_stitchesInAll_4 v_there v_stitches n1 i_3 x_5))) ∧ (¬ r_4 = 0 → (vp_in i_2 10 ∧ (PJ6_bitCount_0f7a4 (v_stitches (i_2).toNatClampNeg) ∧ (∀ r_7 : Int32, QJ6_bitCount_0f7a4 (v_stitches (i_2).toNatClampNeg) r_7 → (∀ x_8 : Int32, x_8 = (i_3 + r_7) → (∀ x_9 : Int32, x_9 = (i_2 + (1 : Int32)) → (∃ n1 : Nat, n1 < n_1 ∧ IX1_stitchesInAll_4 v_there v_stitches n1 x_8 x_9)))))))))))))))) : KX1_stitchesInAll l D cI cZ PX1_stitchesInAll QX1_stitchesInAll := by
  intro sz h_this h_this_wool h_this_stitches h_this_place v_there v_hair v_year v_stitches hpre
  have vc := hvc v_there v_stitches hpre
  clear hvc
  refine Met.ofW (cc := cX1_stitchesInAll) (maxL := 3) (ret := (some .int)) (by decide) rfl ?_
  intro p e s m args below meth c s₁ B hml hv
  obtain ⟨rfl, hsz, hP, hK, hD0⟩ := hv
  have hx := B.exec
  have hb := B.bytes
  have hr := B.returns
  have hts := atoms_spec (ws := wsX1_stitchesInAll) B.pre
  have hown : s.vm.findClass RX1 = some m.cls := findClass_of_methodNamed B.named
  have hlocks := B.notSynchronized
  subst hsz
  have hD := hD0.self (sz := s.heap.size)
  generalize hAe : va_A [(h_this, .inr (1, [.int v_there, .int v_hair, .int v_year, .ref h_this_wool, .ref h_this_stitches, .ref h_this_place])), (h_this_stitches, .inl (cI, 10, .inl v_stitches))] s.heap.size = A at hD ⊢
  have hA : ∀ q : Nat, s.heap.size ≤ q → A q := fun q h => by rw [← hAe]; exact Or.inr h
  have hS : va_S A s.heap s.heap [] := va_S.rf
  have hP : va_P D vwCl [(h_this, .inr (1, [.int v_there, .int v_hair, .int v_year, .ref h_this_wool, .ref h_this_stitches, .ref h_this_place])), (h_this_stitches, .inl (cI, 10, .inl v_stitches))] s.heap := hP
  have hl := lv_entry ([.ref h_this]) (n := 3) (Nat.le_of_ble_eq_true rfl)
  rw [lg_entry_eq]
  generalize (lg_sl ([.ref h_this]) ++ List.replicate (3 - (lg_sl ([.ref h_this])).length) Slot.unset).toArray = ls at hl ⊢
  have hl : lv_has ls 3 [(0, .ref h_this)] := hl
  refine lv_iconst (v := (0 : Int32)) hx hb dX1_stitchesInAll_0 (by decide) ?_
  refine lv_istore_n (lv' := [(1, .int (0 : Int32)), (0, .ref h_this)]) hx hb dX1_stitchesInAll_1 rfl hl (by decide) rfl (fun ls hl => ?_)
  refine lv_iconst (v := (0 : Int32)) hx hb dX1_stitchesInAll_2 (by decide) ?_
  refine lv_istore_n (lv' := [(2, .int (0 : Int32)), (1, .int (0 : Int32)), (0, .ref h_this)]) hx hb dX1_stitchesInAll_3 rfl hl (by decide) rfl (fun ls hl => ?_)
  obtain ⟨⟨n0_1, hi0_1⟩, vc⟩ := vc
  refine kloop (V := Int32 × Int32) (I := fun n v => IX1_stitchesInAll_4 v_there v_stitches n (v.2) (v.1)) (wv := fun v => [(h_this, .inr (1, [.int v_there, .int v_hair, .int v_year, .ref h_this_wool, .ref h_this_stitches, .ref h_this_place])), (h_this_stitches, .inl (cI, 10, .inl v_stitches))]) (lv := fun v => [(0, .ref h_this), (1, .int (v.2)), (2, .int (v.1))]) n0_1 ((0 : Int32), (0 : Int32)) hi0_1 hP hD hS (lv_sub hl [2, 1, 0] rfl) ?_
  intro n_1 v_1 hi_1 ih_1 H locs hP hD hS ls hl
  obtain ⟨i_2, i_3⟩ := v_1
  replace vc := vc n_1 i_2 i_3 hi_1
  have hP : va_P D vwCl [(h_this, .inr (1, [.int v_there, .int v_hair, .int v_year, .ref h_this_wool, .ref h_this_stitches, .ref h_this_place])), (h_this_stitches, .inl (cI, 10, .inl v_stitches))] H := hP
  have hD : va_D A [(h_this, .inr (1, [.int v_there, .int v_hair, .int v_year, .ref h_this_wool, .ref h_this_stitches, .ref h_this_place])), (h_this_stitches, .inl (cI, 10, .inl v_stitches))] := hD
  have hl : lv_has ls 3 [(0, .ref h_this), (1, .int i_3), (2, .int i_2)] := hl
  refine lv_iload_n hx hb dX1_stitchesInAll_4 rfl (lv_at hl 2 rfl) ?_
  refine lv_bipush (v := (10 : Int32)) hx hb dX1_stitchesInAll_5 (by decide) ?_
  refine lv_icmp_ge (tgt := 39) hx hb dX1_stitchesInAll_7 (by decide) (fun c_ => ?_) (fun c_ => ?_)
  · replace vc := vc.1 c_
    refine lv_iload_n hx hb dX1_stitchesInAll_39 rfl (lv_at hl 1 rfl) ?_
    exact W.iret (v := i_3) hx hb hr (fun t ht hW => ⟨⟨i_3, (), rfl, vc, QB_mk (hP.sub [0, 1] rfl) (hD.sub [0, 1] rfl rfl) ht⟩, hS.F ht⟩) hS.2.2 dX1_stitchesInAll_40
  · replace vc := vc.2 c_
    refine lv_aload_n hx hb dX1_stitchesInAll_10 rfl (lv_at hl 0 rfl) ?_
    refine va_get (D := D) (ci := 1) (v := .int v_there) (C := RX1) (T := TX1) (N := 6) hx hb hts mcX1_stitchesInAll_X1 hown hK.1 hP 0 rfl rfl 0 (by decide) (hts _ mwX1_stitchesInAll_1) (fun _ h9 => h9) rfl dX1_stitchesInAll_11 ?_
    refine lv_iload_n hx hb dX1_stitchesInAll_14 rfl (lv_at hl 2 rfl) ?_
    refine kj0_i (rest := []) (kSN ⟨hx, hb, hml, hown, hts⟩ (kX8_isIn _ v_there i_2 vc.1) ⟨va_cnB 2 hts gX1_stitchesInAll_X8_isIn_n35 rfl rfl rfl (KK_n8 hK) (hts _ mwX1_stitchesInAll_4) (by decide +kernel) ⟨(Nat.le_of_ble_eq_true rfl), (Nat.le_of_ble_eq_true rfl)⟩, (hts _ mwX1_stitchesInAll_3), trivial⟩ hK rfl rfl hl.1 (Nat.le_of_ble_eq_true rfl) dX1_stitchesInAll_15 ⟨(Nat.le_of_ble_eq_true rfl), (Nat.le_of_ble_eq_true rfl)⟩) hP hS hA (fun r_4 H locs hq_ hP hS => ?_)
    replace vc := vc.2 r_4 hq_
    have hP : va_P D vwCl [(h_this, .inr (1, [.int v_there, .int v_hair, .int v_year, .ref h_this_wool, .ref h_this_stitches, .ref h_this_place])), (h_this_stitches, .inl (cI, 10, .inl v_stitches))] H := hP
    refine lv_if_eq (tgt := 33) hx hb dX1_stitchesInAll_18 (by decide) (fun c_ => ?_) (fun c_ => ?_)
    · replace vc := vc.1 c_
      obtain ⟨x_5, ex_5⟩ : ∃ y_ : Int32, y_ = (i_2 + (1 : Int32)) := ⟨_, rfl⟩
      replace vc := vc x_5 ex_5
      refine lv_iinc (v := x_5) (lv' := [(2, .int x_5), (0, .ref h_this), (1, .int i_3)]) hx hb dX1_stitchesInAll_33 hl (k := 2) rfl (by rw [ex_5]; rfl) (by decide) rfl (fun ls hl => ?_)
      refine lv_goto (tgt := 4) hx hb dX1_stitchesInAll_36 (by decide) ?_
      obtain ⟨n1_, hlt_, hi_⟩ := vc
      exact ih_1 n1_ (x_5, i_3) hlt_ hi_ _ _ hP hD hS ls (lv_sub hl [1, 2, 0] rfl)
    · replace vc := vc.2 c_
      refine lv_iload_n hx hb dX1_stitchesInAll_21 rfl (lv_at hl 1 rfl) ?_
      refine lv_aload_n hx hb dX1_stitchesInAll_22 rfl (lv_at hl 0 rfl) ?_
      refine va_get (D := D) (ci := 1) (v := .ref h_this_stitches) (C := RX1) (T := TX1) (N := 6) hx hb hts mcX1_stitchesInAll_X1 hown hK.1 hP 0 rfl rfl 4 (by decide) (hts _ mwX1_stitchesInAll_2) (fun _ h9 => h9) rfl dX1_stitchesInAll_23 ?_
      refine lv_iload_n hx hb dX1_stitchesInAll_26 rfl (lv_at hl 2 rfl) ?_
      have hi_6 := vc.1
      replace vc := vc.2
      refine va_iald hx hb hK.1 hP 1 0 rfl rfl hi_6 dX1_stitchesInAll_27 ?_
      refine kj0_i (rest := [.int i_3]) (kS ⟨hx, hb, hml, hown, hts⟩ (kJ6_bitCount_0f7a4 _ (v_stitches (i_2).toNatClampNeg) vc.1) (va_cwS 1 hts gX1_stitchesInAll_J6_bitCount_0f7a4 rfl rfl rfl (by decide +kernel) ⟨(Nat.le_of_ble_eq_true rfl), (Nat.le_of_ble_eq_true rfl)⟩) hK rfl rfl hl.1 (Nat.le_of_ble_eq_true rfl) dX1_stitchesInAll_28 ⟨(Nat.le_of_ble_eq_true rfl), (Nat.le_of_ble_eq_true rfl)⟩) hP hS hA (fun r_7 H locs hq_ hP hS => ?_)
      replace vc := vc.2 r_7 hq_
      have hP : va_P D vwCl [(h_this, .inr (1, [.int v_there, .int v_hair, .int v_year, .ref h_this_wool, .ref h_this_stitches, .ref h_this_place])), (h_this_stitches, .inl (cI, 10, .inl v_stitches))] H := hP
      refine lv_iadd hx hb dX1_stitchesInAll_31 ?_
      refine lv_topi (fun x_8 ex_8 => ?_)
      replace vc := vc x_8 ex_8
      refine lv_istore_n (lv' := [(1, .int x_8), (0, .ref h_this), (2, .int i_2)]) hx hb dX1_stitchesInAll_32 rfl hl (by decide) rfl (fun ls hl => ?_)
      obtain ⟨x_9, ex_9⟩ : ∃ y_ : Int32, y_ = (i_2 + (1 : Int32)) := ⟨_, rfl⟩
      replace vc := vc x_9 ex_9
      refine lv_iinc (v := x_9) (lv' := [(2, .int x_9), (1, .int x_8), (0, .ref h_this)]) hx hb dX1_stitchesInAll_33 hl (k := 2) rfl (by rw [ex_9]; rfl) (by decide) rfl (fun ls hl => ?_)
      refine lv_goto (tgt := 4) hx hb dX1_stitchesInAll_36 (by decide) ?_
      obtain ⟨n1_, hlt_, hi_⟩ := vc
      exact ih_1 n1_ (x_9, x_8) hlt_ hi_ _ _ hP hD hS ls (lv_sub hl [2, 1, 0] rfl)

theorem mwX1_howManyHaveSome_1 : Cond.fieldLink RX1 9 "HassockSee$Diocese" "there" "I" ∈ wsX1_howManyHaveSome := List.mem_of_getElem? (i := 1) rfl
theorem mwX1_howManyHaveSome_2 : Cond.fieldLink RX1 25 "HassockSee$Diocese" "stitches" "[I" ∈ wsX1_howManyHaveSome := List.mem_of_getElem? (i := 2) rfl
theorem mwX1_howManyHaveSome_3 : Cond.static yX8_isIn ∈ wsX1_howManyHaveSome := List.mem_of_getElem? (i := 3) rfl
theorem mwX1_howManyHaveSome_4 : Cond.initialized RX8 ∈ wsX1_howManyHaveSome := List.mem_of_getElem? (i := 4) rfl
theorem mcX1_howManyHaveSome_X1 : ∀ w ∈ u_ws RX1 TX1 6, w ∈ wsX1_howManyHaveSome := fun _ h => (List.mem_cons_of_mem _ (List.mem_append_right _ h))
def KX1_howManyHaveSome (l : Launch) (D : va_G) (cI cZ : ClassId) (P : Int32 → Int32 → (Nat → Int32) → Prop) (Q : Int32 → Int32 → (Nat → Int32) → Int32 → Prop) : Prop := ∀ (sz : Nat) (h_this h_this_wool h_this_stitches h_this_place : Nat) (p0 : Int32) (v_there : Int32) (v_hair : Int32) (v_year : Int32) (v_stitches : (Nat → Int32)), P p0 v_there v_stitches → MI l yX1_howManyHaveSome wsX1_howManyHaveSome ({ frames := 1, cells := 0, slots := 0, locals := 21 }) [.ref h_this, .int p0] D cI cZ sz [(h_this, .inr (1, [.int v_there, .int v_hair, .int v_year, .ref h_this_wool, .ref h_this_stitches, .ref h_this_place])), (h_this_stitches, .inl (cI, 10, .inl v_stitches))] (fun r (u : Unit) => Q p0 v_there v_stitches r ) (fun u => [(h_this, .inr (1, [.int v_there, .int v_hair, .int v_year, .ref h_this_wool, .ref h_this_stitches, .ref h_this_place])), (h_this_stitches, .inl (cI, 10, .inl v_stitches))]) 0 0
set_option maxHeartbeats 4000000 in
set_option maxRecDepth 100000 in
theorem walkX1_howManyHaveSome {l : Launch} {D : va_G} {cI cZ : ClassId} {PX1_howManyHaveSome : Int32 → Int32 → (Nat → Int32) → Prop} {QX1_howManyHaveSome : Int32 → Int32 → (Nat → Int32) → Int32 → Prop} {PX8_isIn : Int32 → Int32 → Prop} {QX8_isIn : Int32 → Int32 → Int32 → Prop} (kX8_isIn : KX8_isIn l D cI cZ PX8_isIn QX8_isIn) (IX1_howManyHaveSome_4 : Int32 → Int32 → (Nat → Int32) → Nat → Int32 → Int32 → Int32 → Prop) (hvc : ∀ (p0 : Int32) (v_there : Int32) (v_stitches : (Nat → Int32)), PX1_howManyHaveSome p0 v_there v_stitches → ((∃ n0 : Nat, IX1_howManyHaveSome_4 p0 v_there v_stitches n0 p0 (0 : Int32) (0 : Int32)) ∧ (∀ (n_1 : Nat) (i_2 : Int32) (i_3 : Int32), (IX1_howManyHaveSome_4 p0 v_there v_stitches n_1 p0 i_3 i_2 → (((10 : Int32) ≤ i_2 → (QX1_howManyHaveSome p0 v_there v_stitches i_3 )) ∧ (¬ (10 : Int32) ≤ i_2 → (PX8_isIn v_there i_2 ∧ (∀ r_4 : Int32, QX8_isIn v_there i_2 r_4 → ((r_4 = 0 → (∀ x_5 : Int32, x_5 = (i_2 + (1 : Int32)) → (∃ n1 : Nat, n1 < n_1 ∧ IX1_howManyHaveSome_4 p0 v_there v_stitches n1 p0 i_3 x_5))) ∧ (¬ r_4 = 0 → (vp_in i_2 10 ∧ ((((v_stitches (i_2).toNatClampNeg) &&& p0) = 0 → (∀ x_7 : Int32, x_7 = (i_2 + (1 : Int32)) → (∃ n1 : Nat, n1 < n_1 ∧ IX1_howManyHaveSome_4 p0 v_there v_stitches n1 p0 i_3 x_7))) ∧ (¬ ((v_stitches (i_2).toNatClampNeg) &&& p0) = 0 → (∀ x_8 : Int32, x_8 = (i_3 + (1 : Int32)) → (∀ x_9 : Int32, x_9 = (i_2 + (1 : Int32)) → (∃ n1 : Nat, n1 < n_1 ∧ IX1_howManyHaveSome_4 p0 v_there v_stitches n1 p0 x_8 x_9)))))))))))))))) : KX1_howManyHaveSome l D cI cZ PX1_howManyHaveSome QX1_howManyHaveSome := by
  intro sz h_this h_this_wool h_this_stitches h_this_place p0 v_there v_hair v_year v_stitches hpre
  have vc := hvc p0 v_there v_stitches hpre
  clear hvc
  refine Met.ofW (cc := cX1_howManyHaveSome) (maxL := 4) (ret := (some .int)) (by decide) rfl ?_
  intro p e s m args below meth c s₁ B hml hv
  obtain ⟨rfl, hsz, hP, hK, hD0⟩ := hv
  have hx := B.exec
  have hb := B.bytes
  have hr := B.returns
  have hts := atoms_spec (ws := wsX1_howManyHaveSome) B.pre
  have hown : s.vm.findClass RX1 = some m.cls := findClass_of_methodNamed B.named
  have hlocks := B.notSynchronized
  subst hsz
  have hD := hD0.self (sz := s.heap.size)
  generalize hAe : va_A [(h_this, .inr (1, [.int v_there, .int v_hair, .int v_year, .ref h_this_wool, .ref h_this_stitches, .ref h_this_place])), (h_this_stitches, .inl (cI, 10, .inl v_stitches))] s.heap.size = A at hD ⊢
  have hA : ∀ q : Nat, s.heap.size ≤ q → A q := fun q h => by rw [← hAe]; exact Or.inr h
  have hS : va_S A s.heap s.heap [] := va_S.rf
  have hP : va_P D vwCl [(h_this, .inr (1, [.int v_there, .int v_hair, .int v_year, .ref h_this_wool, .ref h_this_stitches, .ref h_this_place])), (h_this_stitches, .inl (cI, 10, .inl v_stitches))] s.heap := hP
  have hl := lv_entry ([.ref h_this, .int p0]) (n := 4) (Nat.le_of_ble_eq_true rfl)
  rw [lg_entry_eq]
  generalize (lg_sl ([.ref h_this, .int p0]) ++ List.replicate (4 - (lg_sl ([.ref h_this, .int p0])).length) Slot.unset).toArray = ls at hl ⊢
  have hl : lv_has ls 4 [(0, .ref h_this), (1, .int p0)] := hl
  refine lv_iconst (v := (0 : Int32)) hx hb dX1_howManyHaveSome_0 (by decide) ?_
  refine lv_istore_n (lv' := [(2, .int (0 : Int32)), (0, .ref h_this), (1, .int p0)]) hx hb dX1_howManyHaveSome_1 rfl hl (by decide) rfl (fun ls hl => ?_)
  refine lv_iconst (v := (0 : Int32)) hx hb dX1_howManyHaveSome_2 (by decide) ?_
  refine lv_istore_n (lv' := [(3, .int (0 : Int32)), (2, .int (0 : Int32)), (0, .ref h_this), (1, .int p0)]) hx hb dX1_howManyHaveSome_3 rfl hl (by decide) rfl (fun ls hl => ?_)
  obtain ⟨⟨n0_1, hi0_1⟩, vc⟩ := vc
  refine kloop (V := Int32 × Int32) (I := fun n v => IX1_howManyHaveSome_4 p0 v_there v_stitches n p0 (v.2) (v.1)) (wv := fun v => [(h_this, .inr (1, [.int v_there, .int v_hair, .int v_year, .ref h_this_wool, .ref h_this_stitches, .ref h_this_place])), (h_this_stitches, .inl (cI, 10, .inl v_stitches))]) (lv := fun v => [(0, .ref h_this), (1, .int p0), (2, .int (v.2)), (3, .int (v.1))]) n0_1 ((0 : Int32), (0 : Int32)) hi0_1 hP hD hS (lv_sub hl [2, 3, 1, 0] rfl) ?_
  intro n_1 v_1 hi_1 ih_1 H locs hP hD hS ls hl
  obtain ⟨i_2, i_3⟩ := v_1
  replace vc := vc n_1 i_2 i_3 hi_1
  have hP : va_P D vwCl [(h_this, .inr (1, [.int v_there, .int v_hair, .int v_year, .ref h_this_wool, .ref h_this_stitches, .ref h_this_place])), (h_this_stitches, .inl (cI, 10, .inl v_stitches))] H := hP
  have hD : va_D A [(h_this, .inr (1, [.int v_there, .int v_hair, .int v_year, .ref h_this_wool, .ref h_this_stitches, .ref h_this_place])), (h_this_stitches, .inl (cI, 10, .inl v_stitches))] := hD
  have hl : lv_has ls 4 [(0, .ref h_this), (1, .int p0), (2, .int i_3), (3, .int i_2)] := hl
  refine lv_iload_n hx hb dX1_howManyHaveSome_4 rfl (lv_at hl 3 rfl) ?_
  refine lv_bipush (v := (10 : Int32)) hx hb dX1_howManyHaveSome_5 (by decide) ?_
  refine lv_icmp_ge (tgt := 41) hx hb dX1_howManyHaveSome_7 (by decide) (fun c_ => ?_) (fun c_ => ?_)
  · replace vc := vc.1 c_
    refine lv_iload_n hx hb dX1_howManyHaveSome_41 rfl (lv_at hl 2 rfl) ?_
    exact W.iret (v := i_3) hx hb hr (fun t ht hW => ⟨⟨i_3, (), rfl, vc, QB_mk (hP.sub [0, 1] rfl) (hD.sub [0, 1] rfl rfl) ht⟩, hS.F ht⟩) hS.2.2 dX1_howManyHaveSome_42
  · replace vc := vc.2 c_
    refine lv_aload_n hx hb dX1_howManyHaveSome_10 rfl (lv_at hl 0 rfl) ?_
    refine va_get (D := D) (ci := 1) (v := .int v_there) (C := RX1) (T := TX1) (N := 6) hx hb hts mcX1_howManyHaveSome_X1 hown hK.1 hP 0 rfl rfl 0 (by decide) (hts _ mwX1_howManyHaveSome_1) (fun _ h9 => h9) rfl dX1_howManyHaveSome_11 ?_
    refine lv_iload_n hx hb dX1_howManyHaveSome_14 rfl (lv_at hl 3 rfl) ?_
    refine kj0_i (rest := []) (kSN ⟨hx, hb, hml, hown, hts⟩ (kX8_isIn _ v_there i_2 vc.1) ⟨va_cnB 2 hts gX1_howManyHaveSome_X8_isIn_n35 rfl rfl rfl (KK_n8 hK) (hts _ mwX1_howManyHaveSome_4) (by decide +kernel) ⟨(Nat.le_of_ble_eq_true rfl), (Nat.le_of_ble_eq_true rfl)⟩, (hts _ mwX1_howManyHaveSome_3), trivial⟩ hK rfl rfl hl.1 (Nat.le_of_ble_eq_true rfl) dX1_howManyHaveSome_15 ⟨(Nat.le_of_ble_eq_true rfl), (Nat.le_of_ble_eq_true rfl)⟩) hP hS hA (fun r_4 H locs hq_ hP hS => ?_)
    replace vc := vc.2 r_4 hq_
    have hP : va_P D vwCl [(h_this, .inr (1, [.int v_there, .int v_hair, .int v_year, .ref h_this_wool, .ref h_this_stitches, .ref h_this_place])), (h_this_stitches, .inl (cI, 10, .inl v_stitches))] H := hP
    refine lv_if_eq (tgt := 35) hx hb dX1_howManyHaveSome_18 (by decide) (fun c_ => ?_) (fun c_ => ?_)
    · replace vc := vc.1 c_
      obtain ⟨x_5, ex_5⟩ : ∃ y_ : Int32, y_ = (i_2 + (1 : Int32)) := ⟨_, rfl⟩
      replace vc := vc x_5 ex_5
      refine lv_iinc (v := x_5) (lv' := [(3, .int x_5), (0, .ref h_this), (1, .int p0), (2, .int i_3)]) hx hb dX1_howManyHaveSome_35 hl (k := 3) rfl (by rw [ex_5]; rfl) (by decide) rfl (fun ls hl => ?_)
      refine lv_goto (tgt := 4) hx hb dX1_howManyHaveSome_38 (by decide) ?_
      obtain ⟨n1_, hlt_, hi_⟩ := vc
      exact ih_1 n1_ (x_5, i_3) hlt_ hi_ _ _ hP hD hS ls (lv_sub hl [1, 2, 3, 0] rfl)
    · replace vc := vc.2 c_
      refine lv_aload_n hx hb dX1_howManyHaveSome_21 rfl (lv_at hl 0 rfl) ?_
      refine va_get (D := D) (ci := 1) (v := .ref h_this_stitches) (C := RX1) (T := TX1) (N := 6) hx hb hts mcX1_howManyHaveSome_X1 hown hK.1 hP 0 rfl rfl 4 (by decide) (hts _ mwX1_howManyHaveSome_2) (fun _ h9 => h9) rfl dX1_howManyHaveSome_22 ?_
      refine lv_iload_n hx hb dX1_howManyHaveSome_25 rfl (lv_at hl 3 rfl) ?_
      have hi_6 := vc.1
      replace vc := vc.2
      refine va_iald hx hb hK.1 hP 1 0 rfl rfl hi_6 dX1_howManyHaveSome_26 ?_
      refine lv_iload_n hx hb dX1_howManyHaveSome_27 rfl (lv_at hl 1 rfl) ?_
      refine lv_iand hx hb dX1_howManyHaveSome_28 ?_
      refine lv_if_eq (tgt := 35) hx hb dX1_howManyHaveSome_29 (by decide) (fun c_ => ?_) (fun c_ => ?_)
      · replace vc := vc.1 c_
        obtain ⟨x_7, ex_7⟩ : ∃ y_ : Int32, y_ = (i_2 + (1 : Int32)) := ⟨_, rfl⟩
        replace vc := vc x_7 ex_7
        refine lv_iinc (v := x_7) (lv' := [(3, .int x_7), (0, .ref h_this), (1, .int p0), (2, .int i_3)]) hx hb dX1_howManyHaveSome_35 hl (k := 3) rfl (by rw [ex_7]; rfl) (by decide) rfl (fun ls hl => ?_)
        refine lv_goto (tgt := 4) hx hb dX1_howManyHaveSome_38 (by decide) ?_
        obtain ⟨n1_, hlt_, hi_⟩ := vc
        exact ih_1 n1_ (x_7, i_3) hlt_ hi_ _ _ hP hD hS ls (lv_sub hl [1, 2, 3, 0] rfl)
      · replace vc := vc.2 c_
        obtain ⟨x_8, ex_8⟩ : ∃ y_ : Int32, y_ = (i_3 + (1 : Int32)) := ⟨_, rfl⟩
        replace vc := vc x_8 ex_8
        refine lv_iinc (v := x_8) (lv' := [(2, .int x_8), (0, .ref h_this), (1, .int p0), (3, .int i_2)]) hx hb dX1_howManyHaveSome_32 hl (k := 2) rfl (by rw [ex_8]; rfl) (by decide) rfl (fun ls hl => ?_)
        obtain ⟨x_9, ex_9⟩ : ∃ y_ : Int32, y_ = (i_2 + (1 : Int32)) := ⟨_, rfl⟩
        replace vc := vc x_9 ex_9
        refine lv_iinc (v := x_9) (lv' := [(3, .int x_9), (2, .int x_8), (0, .ref h_this), (1, .int p0)]) hx hb dX1_howManyHaveSome_35 hl (k := 3) rfl (by rw [ex_9]; rfl) (by decide) rfl (fun ls hl => ?_)
        refine lv_goto (tgt := 4) hx hb dX1_howManyHaveSome_38 (by decide) ?_
        obtain ⟨n1_, hlt_, hi_⟩ := vc
        exact ih_1 n1_ (x_9, x_8) hlt_ hi_ _ _ hP hD hS ls (lv_sub hl [2, 3, 1, 0] rfl)

theorem mwX1_whoIsAt_1 : Cond.fieldLink RX1 28 "HassockSee$Diocese" "place" "[I" ∈ wsX1_whoIsAt := List.mem_of_getElem? (i := 1) rfl
theorem mwX1_whoIsAt_2 : Cond.fieldLink RX1 9 "HassockSee$Diocese" "there" "I" ∈ wsX1_whoIsAt := List.mem_of_getElem? (i := 2) rfl
theorem mwX1_whoIsAt_3 : Cond.static yX8_isIn ∈ wsX1_whoIsAt := List.mem_of_getElem? (i := 3) rfl
theorem mwX1_whoIsAt_4 : Cond.initialized RX8 ∈ wsX1_whoIsAt := List.mem_of_getElem? (i := 4) rfl
theorem mcX1_whoIsAt_X1 : ∀ w ∈ u_ws RX1 TX1 6, w ∈ wsX1_whoIsAt := fun _ h => (List.mem_cons_of_mem _ (List.mem_append_right _ h))
def KX1_whoIsAt (l : Launch) (D : va_G) (cI cZ : ClassId) (P : Int32 → Int32 → (Nat → Int32) → Prop) (Q : Int32 → Int32 → (Nat → Int32) → Int32 → Prop) : Prop := ∀ (sz : Nat) (h_this h_this_wool h_this_stitches h_this_place : Nat) (p0 : Int32) (v_there : Int32) (v_hair : Int32) (v_year : Int32) (v_place : (Nat → Int32)), P p0 v_there v_place → MI l yX1_whoIsAt wsX1_whoIsAt ({ frames := 1, cells := 0, slots := 0, locals := 21 }) [.ref h_this, .int p0] D cI cZ sz [(h_this, .inr (1, [.int v_there, .int v_hair, .int v_year, .ref h_this_wool, .ref h_this_stitches, .ref h_this_place])), (h_this_place, .inl (cI, 10, .inl v_place))] (fun r (u : Unit) => Q p0 v_there v_place r ) (fun u => [(h_this, .inr (1, [.int v_there, .int v_hair, .int v_year, .ref h_this_wool, .ref h_this_stitches, .ref h_this_place])), (h_this_place, .inl (cI, 10, .inl v_place))]) 0 0
set_option maxHeartbeats 4000000 in
set_option maxRecDepth 100000 in
theorem walkX1_whoIsAt {l : Launch} {D : va_G} {cI cZ : ClassId} {PX1_whoIsAt : Int32 → Int32 → (Nat → Int32) → Prop} {QX1_whoIsAt : Int32 → Int32 → (Nat → Int32) → Int32 → Prop} {PX8_isIn : Int32 → Int32 → Prop} {QX8_isIn : Int32 → Int32 → Int32 → Prop} (kX8_isIn : KX8_isIn l D cI cZ PX8_isIn QX8_isIn) (IX1_whoIsAt_2 : Int32 → Int32 → (Nat → Int32) → Nat → Int32 → Int32 → Prop) (hvc : ∀ (p0 : Int32) (v_there : Int32) (v_place : (Nat → Int32)), PX1_whoIsAt p0 v_there v_place → ((∃ n0 : Nat, IX1_whoIsAt_2 p0 v_there v_place n0 p0 (0 : Int32)) ∧ (∀ (n_1 : Nat) (i_2 : Int32), (IX1_whoIsAt_2 p0 v_there v_place n_1 p0 i_2 → (((10 : Int32) ≤ i_2 → (QX1_whoIsAt p0 v_there v_place (-6 : Int32) )) ∧ (¬ (10 : Int32) ≤ i_2 → (vp_in i_2 10 ∧ ((¬ (v_place (i_2).toNatClampNeg) = p0 → (∀ x_4 : Int32, x_4 = (i_2 + (1 : Int32)) → (∃ n1 : Nat, n1 < n_1 ∧ IX1_whoIsAt_2 p0 v_there v_place n1 p0 x_4))) ∧ ((v_place (i_2).toNatClampNeg) = p0 → (PX8_isIn v_there i_2 ∧ (∀ r_5 : Int32, QX8_isIn v_there i_2 r_5 → ((r_5 = 0 → (∀ x_6 : Int32, x_6 = (i_2 + (1 : Int32)) → (∃ n1 : Nat, n1 < n_1 ∧ IX1_whoIsAt_2 p0 v_there v_place n1 p0 x_6))) ∧ (¬ r_5 = 0 → (QX1_whoIsAt p0 v_there v_place i_2 )))))))))))))) : KX1_whoIsAt l D cI cZ PX1_whoIsAt QX1_whoIsAt := by
  intro sz h_this h_this_wool h_this_stitches h_this_place p0 v_there v_hair v_year v_place hpre
  have vc := hvc p0 v_there v_place hpre
  clear hvc
  refine Met.ofW (cc := cX1_whoIsAt) (maxL := 3) (ret := (some .int)) (by decide) rfl ?_
  intro p e s m args below meth c s₁ B hml hv
  obtain ⟨rfl, hsz, hP, hK, hD0⟩ := hv
  have hx := B.exec
  have hb := B.bytes
  have hr := B.returns
  have hts := atoms_spec (ws := wsX1_whoIsAt) B.pre
  have hown : s.vm.findClass RX1 = some m.cls := findClass_of_methodNamed B.named
  have hlocks := B.notSynchronized
  subst hsz
  have hD := hD0.self (sz := s.heap.size)
  generalize hAe : va_A [(h_this, .inr (1, [.int v_there, .int v_hair, .int v_year, .ref h_this_wool, .ref h_this_stitches, .ref h_this_place])), (h_this_place, .inl (cI, 10, .inl v_place))] s.heap.size = A at hD ⊢
  have hA : ∀ q : Nat, s.heap.size ≤ q → A q := fun q h => by rw [← hAe]; exact Or.inr h
  have hS : va_S A s.heap s.heap [] := va_S.rf
  have hP : va_P D vwCl [(h_this, .inr (1, [.int v_there, .int v_hair, .int v_year, .ref h_this_wool, .ref h_this_stitches, .ref h_this_place])), (h_this_place, .inl (cI, 10, .inl v_place))] s.heap := hP
  have hl := lv_entry ([.ref h_this, .int p0]) (n := 3) (Nat.le_of_ble_eq_true rfl)
  rw [lg_entry_eq]
  generalize (lg_sl ([.ref h_this, .int p0]) ++ List.replicate (3 - (lg_sl ([.ref h_this, .int p0])).length) Slot.unset).toArray = ls at hl ⊢
  have hl : lv_has ls 3 [(0, .ref h_this), (1, .int p0)] := hl
  refine lv_iconst (v := (0 : Int32)) hx hb dX1_whoIsAt_0 (by decide) ?_
  refine lv_istore_n (lv' := [(2, .int (0 : Int32)), (0, .ref h_this), (1, .int p0)]) hx hb dX1_whoIsAt_1 rfl hl (by decide) rfl (fun ls hl => ?_)
  obtain ⟨⟨n0_1, hi0_1⟩, vc⟩ := vc
  refine kloop (V := Int32) (I := fun n v => IX1_whoIsAt_2 p0 v_there v_place n p0 (v)) (wv := fun v => [(h_this, .inr (1, [.int v_there, .int v_hair, .int v_year, .ref h_this_wool, .ref h_this_stitches, .ref h_this_place])), (h_this_place, .inl (cI, 10, .inl v_place))]) (lv := fun v => [(0, .ref h_this), (1, .int p0), (2, .int (v))]) n0_1 ((0 : Int32)) hi0_1 hP hD hS (lv_sub hl [1, 2, 0] rfl) ?_
  intro n_1 v_1 hi_1 ih_1 H locs hP hD hS ls hl
  obtain ⟨i_2, rfl⟩ : ∃ z, z = v_1 := ⟨_, rfl⟩
  replace vc := vc n_1 i_2 hi_1
  have hP : va_P D vwCl [(h_this, .inr (1, [.int v_there, .int v_hair, .int v_year, .ref h_this_wool, .ref h_this_stitches, .ref h_this_place])), (h_this_place, .inl (cI, 10, .inl v_place))] H := hP
  have hD : va_D A [(h_this, .inr (1, [.int v_there, .int v_hair, .int v_year, .ref h_this_wool, .ref h_this_stitches, .ref h_this_place])), (h_this_place, .inl (cI, 10, .inl v_place))] := hD
  have hl : lv_has ls 3 [(0, .ref h_this), (1, .int p0), (2, .int i_2)] := hl
  refine lv_iload_n hx hb dX1_whoIsAt_2 rfl (lv_at hl 2 rfl) ?_
  refine lv_bipush (v := (10 : Int32)) hx hb dX1_whoIsAt_3 (by decide) ?_
  refine lv_icmp_ge (tgt := 37) hx hb dX1_whoIsAt_5 (by decide) (fun c_ => ?_) (fun c_ => ?_)
  · replace vc := vc.1 c_
    refine lv_bipush (v := (-6 : Int32)) hx hb dX1_whoIsAt_37 (by decide) ?_
    exact W.iret (v := (-6 : Int32)) hx hb hr (fun t ht hW => ⟨⟨(-6 : Int32), (), rfl, vc, QB_mk (hP.sub [0, 1] rfl) (hD.sub [0, 1] rfl rfl) ht⟩, hS.F ht⟩) hS.2.2 dX1_whoIsAt_39
  · replace vc := vc.2 c_
    refine lv_aload_n hx hb dX1_whoIsAt_8 rfl (lv_at hl 0 rfl) ?_
    refine va_get (D := D) (ci := 1) (v := .ref h_this_place) (C := RX1) (T := TX1) (N := 6) hx hb hts mcX1_whoIsAt_X1 hown hK.1 hP 0 rfl rfl 5 (by decide) (hts _ mwX1_whoIsAt_1) (fun _ h9 => h9) rfl dX1_whoIsAt_9 ?_
    refine lv_iload_n hx hb dX1_whoIsAt_12 rfl (lv_at hl 2 rfl) ?_
    have hi_3 := vc.1
    replace vc := vc.2
    refine va_iald hx hb hK.1 hP 1 0 rfl rfl hi_3 dX1_whoIsAt_13 ?_
    refine lv_iload_n hx hb dX1_whoIsAt_14 rfl (lv_at hl 1 rfl) ?_
    refine lv_icmp_ne (tgt := 31) hx hb dX1_whoIsAt_15 (by decide) (fun c_ => ?_) (fun c_ => ?_)
    · replace vc := vc.1 c_
      obtain ⟨x_4, ex_4⟩ : ∃ y_ : Int32, y_ = (i_2 + (1 : Int32)) := ⟨_, rfl⟩
      replace vc := vc x_4 ex_4
      refine lv_iinc (v := x_4) (lv' := [(2, .int x_4), (0, .ref h_this), (1, .int p0)]) hx hb dX1_whoIsAt_31 hl (k := 2) rfl (by rw [ex_4]; rfl) (by decide) rfl (fun ls hl => ?_)
      refine lv_goto (tgt := 2) hx hb dX1_whoIsAt_34 (by decide) ?_
      obtain ⟨n1_, hlt_, hi_⟩ := vc
      exact ih_1 n1_ (x_4) hlt_ hi_ _ _ hP hD hS ls (lv_sub hl [1, 2, 0] rfl)
    · replace vc := vc.2 c_
      refine lv_aload_n hx hb dX1_whoIsAt_18 rfl (lv_at hl 0 rfl) ?_
      refine va_get (D := D) (ci := 1) (v := .int v_there) (C := RX1) (T := TX1) (N := 6) hx hb hts mcX1_whoIsAt_X1 hown hK.1 hP 0 rfl rfl 0 (by decide) (hts _ mwX1_whoIsAt_2) (fun _ h9 => h9) rfl dX1_whoIsAt_19 ?_
      refine lv_iload_n hx hb dX1_whoIsAt_22 rfl (lv_at hl 2 rfl) ?_
      refine kj0_i (rest := []) (kSN ⟨hx, hb, hml, hown, hts⟩ (kX8_isIn _ v_there i_2 vc.1) ⟨va_cnB 2 hts gX1_whoIsAt_X8_isIn_n35 rfl rfl rfl (KK_n8 hK) (hts _ mwX1_whoIsAt_4) (by decide +kernel) ⟨(Nat.le_of_ble_eq_true rfl), (Nat.le_of_ble_eq_true rfl)⟩, (hts _ mwX1_whoIsAt_3), trivial⟩ hK rfl rfl hl.1 (Nat.le_of_ble_eq_true rfl) dX1_whoIsAt_23 ⟨(Nat.le_of_ble_eq_true rfl), (Nat.le_of_ble_eq_true rfl)⟩) hP hS hA (fun r_5 H locs hq_ hP hS => ?_)
      replace vc := vc.2 r_5 hq_
      have hP : va_P D vwCl [(h_this, .inr (1, [.int v_there, .int v_hair, .int v_year, .ref h_this_wool, .ref h_this_stitches, .ref h_this_place])), (h_this_place, .inl (cI, 10, .inl v_place))] H := hP
      refine lv_if_eq (tgt := 31) hx hb dX1_whoIsAt_26 (by decide) (fun c_ => ?_) (fun c_ => ?_)
      · replace vc := vc.1 c_
        obtain ⟨x_6, ex_6⟩ : ∃ y_ : Int32, y_ = (i_2 + (1 : Int32)) := ⟨_, rfl⟩
        replace vc := vc x_6 ex_6
        refine lv_iinc (v := x_6) (lv' := [(2, .int x_6), (0, .ref h_this), (1, .int p0)]) hx hb dX1_whoIsAt_31 hl (k := 2) rfl (by rw [ex_6]; rfl) (by decide) rfl (fun ls hl => ?_)
        refine lv_goto (tgt := 2) hx hb dX1_whoIsAt_34 (by decide) ?_
        obtain ⟨n1_, hlt_, hi_⟩ := vc
        exact ih_1 n1_ (x_6) hlt_ hi_ _ _ hP hD hS ls (lv_sub hl [1, 2, 0] rfl)
      · replace vc := vc.2 c_
        refine lv_iload_n hx hb dX1_whoIsAt_29 rfl (lv_at hl 2 rfl) ?_
        exact W.iret (v := i_2) hx hb hr (fun t ht hW => ⟨⟨i_2, (), rfl, vc, QB_mk (hP.sub [0, 1] rfl) (hD.sub [0, 1] rfl rfl) ht⟩, hS.F ht⟩) hS.2.2 dX1_whoIsAt_30

theorem mwX1_bordersInPlaces_1 : Cond.fieldLink RX1 25 "HassockSee$Diocese" "stitches" "[I" ∈ wsX1_bordersInPlaces := List.mem_of_getElem? (i := 1) rfl
theorem mcX1_bordersInPlaces_X1 : ∀ w ∈ u_ws RX1 TX1 6, w ∈ wsX1_bordersInPlaces := fun _ h => (List.mem_cons_of_mem _ (List.mem_append_right _ h))
def KX1_bordersInPlaces (l : Launch) (D : va_G) (cI cZ : ClassId) (P : Int32 → (Nat → Int32) → (Nat → Int32) → Prop) (Q : Int32 → (Nat → Int32) → (Nat → Int32) → Int32 → Prop) : Prop := ∀ (sz : Nat) (h_this h_this_wool h_this_stitches h_this_place : Nat) (v_there : Int32) (v_hair : Int32) (v_year : Int32) (v_place : (Nat → Int32)) (v_stitches : (Nat → Int32)), P v_there v_place v_stitches → MI l yX1_bordersInPlaces wsX1_bordersInPlaces ({ frames := 2, cells := 0, slots := 0, locals := 43 }) [.ref h_this] D cI cZ sz [(h_this, .inr (1, [.int v_there, .int v_hair, .int v_year, .ref h_this_wool, .ref h_this_stitches, .ref h_this_place])), (h_this_place, .inl (cI, 10, .inl v_place)), (h_this_stitches, .inl (cI, 10, .inl v_stitches))] (fun r (u : Unit) => Q v_there v_place v_stitches r ) (fun u => [(h_this, .inr (1, [.int v_there, .int v_hair, .int v_year, .ref h_this_wool, .ref h_this_stitches, .ref h_this_place])), (h_this_place, .inl (cI, 10, .inl v_place)), (h_this_stitches, .inl (cI, 10, .inl v_stitches))]) 0 0
set_option maxHeartbeats 4000000 in
set_option maxRecDepth 100000 in
theorem walkX1_bordersInPlaces {l : Launch} {D : va_G} {cI cZ : ClassId} {PX1_bordersInPlaces : Int32 → (Nat → Int32) → (Nat → Int32) → Prop} {QX1_bordersInPlaces : Int32 → (Nat → Int32) → (Nat → Int32) → Int32 → Prop} {PX1_whoIsAt : Int32 → Int32 → (Nat → Int32) → Prop} {QX1_whoIsAt : Int32 → Int32 → (Nat → Int32) → Int32 → Prop} {PJ6_bitCount_0f7a4 : Int32 → Prop} {QJ6_bitCount_0f7a4 : Int32 → Int32 → Prop} (kX1_whoIsAt : KX1_whoIsAt l D cI cZ PX1_whoIsAt QX1_whoIsAt) (kJ6_bitCount_0f7a4 : KJ6_bitCount_0f7a4 l D cI cZ PJ6_bitCount_0f7a4 QJ6_bitCount_0f7a4) (IX1_bordersInPlaces_7 : Int32 → (Nat → Int32) → (Nat → Int32) → Nat → Int32 → Int32 → Int32 → Prop) (hvc : ∀ (v_there : Int32) (v_place : (Nat → Int32)) (v_stitches : (Nat → Int32)), PX1_bordersInPlaces v_there v_place v_stitches → ((∃ n0 : Nat, IX1_bordersInPlaces_7 v_there v_place v_stitches n0 (0 : Int32) (-6 : Int32) (0 : Int32)) ∧ (∀ (n_1 : Nat) (i_2 : Int32) (i_3 : Int32) (i_4 : Int32), (IX1_bordersInPlaces_7 v_there v_place v_stitches n_1 i_3 i_4 i_2 → (((10 : Int32) ≤ i_2 → (QX1_bordersInPlaces v_there v_place v_stitches i_3 )) ∧ (¬ (10 : Int32) ≤ i_2 → (PX1_whoIsAt i_2 v_there v_place ∧ (∀ (r_5 : Int32), QX1_whoIsAt i_2 v_there v_place r_5  → ((r_5 = (-6 : Int32) → (∀ x_6 : Int32, x_6 = (i_2 + (1 : Int32)) → (∃ n1 : Nat, n1 < n_1 ∧ IX1_bordersInPlaces_7 v_there v_place v_stitches n1 i_3 i_4 x_6))) ∧ (¬ r_5 = (-6 : Int32) → ((¬ i_4 = (-6 : Int32) → (vp_in r_5 10 ∧ (PJ6_bitCount_0f7a4 (i_4 ^^^ (v_stitches (r_5).toNatClampNeg)) ∧ (∀ r_8 : Int32, QJ6_bitCount_0f7a4 (i_4 ^^^ (v_stitches (r_5).toNatClampNeg)) r_8 → (∀ x_9 : Int32, x_9 = (i_3 + r_8) → (vp_in r_5 10 ∧ (∀ x_11 : Int32, x_11 = (v_stitches (r_5).toNatClampNeg) → (∀ x_12 : Int32, x_12 = (i_2 + (1 : Int32)) → (∃ n1 : Nat, n1 < n_1 ∧ IX1_bordersInPlaces_7 v_there v_place v_stitches n1 x_9 x_11 x_12))))))))) ∧ (i_4 = (-6 : Int32) → (∀ x_13 : Int32, x_13 = (i_3 + (0 : Int32)) → (vp_in r_5 10 ∧ (∀ x_15 : Int32, x_15 = (v_stitches (r_5).toNatClampNeg) → (∀ x_16 : Int32, x_16 = (i_2 + (1 : Int32)) → (∃ n1 : Nat, n1 < n_1 ∧ IX1_bordersInPlaces_7 v_there v_place v_stitches n1 x_13 x_15 x_16))))))))))))))))) : KX1_bordersInPlaces l D cI cZ PX1_bordersInPlaces QX1_bordersInPlaces := by
  intro sz h_this h_this_wool h_this_stitches h_this_place v_there v_hair v_year v_place v_stitches hpre
  have vc := hvc v_there v_place v_stitches hpre
  clear hvc
  refine Met.ofW (cc := cX1_bordersInPlaces) (maxL := 5) (ret := (some .int)) (by decide) rfl ?_
  intro p e s m args below meth c s₁ B hml hv
  obtain ⟨rfl, hsz, hP, hK, hD0⟩ := hv
  have hx := B.exec
  have hb := B.bytes
  have hr := B.returns
  have hts := atoms_spec (ws := wsX1_bordersInPlaces) B.pre
  have hown : s.vm.findClass RX1 = some m.cls := findClass_of_methodNamed B.named
  have hlocks := B.notSynchronized
  subst hsz
  have hD := hD0.self (sz := s.heap.size)
  generalize hAe : va_A [(h_this, .inr (1, [.int v_there, .int v_hair, .int v_year, .ref h_this_wool, .ref h_this_stitches, .ref h_this_place])), (h_this_place, .inl (cI, 10, .inl v_place)), (h_this_stitches, .inl (cI, 10, .inl v_stitches))] s.heap.size = A at hD ⊢
  have hA : ∀ q : Nat, s.heap.size ≤ q → A q := fun q h => by rw [← hAe]; exact Or.inr h
  have hS : va_S A s.heap s.heap [] := va_S.rf
  have hP : va_P D vwCl [(h_this, .inr (1, [.int v_there, .int v_hair, .int v_year, .ref h_this_wool, .ref h_this_stitches, .ref h_this_place])), (h_this_place, .inl (cI, 10, .inl v_place)), (h_this_stitches, .inl (cI, 10, .inl v_stitches))] s.heap := hP
  have hl := lv_entry ([.ref h_this]) (n := 5) (Nat.le_of_ble_eq_true rfl)
  rw [lg_entry_eq]
  generalize (lg_sl ([.ref h_this]) ++ List.replicate (5 - (lg_sl ([.ref h_this])).length) Slot.unset).toArray = ls at hl ⊢
  have hl : lv_has ls 5 [(0, .ref h_this)] := hl
  refine lv_iconst (v := (0 : Int32)) hx hb dX1_bordersInPlaces_0 (by decide) ?_
  refine lv_istore_n (lv' := [(1, .int (0 : Int32)), (0, .ref h_this)]) hx hb dX1_bordersInPlaces_1 rfl hl (by decide) rfl (fun ls hl => ?_)
  refine lv_bipush (v := (-6 : Int32)) hx hb dX1_bordersInPlaces_2 (by decide) ?_
  refine lv_istore_n (lv' := [(2, .int (-6 : Int32)), (1, .int (0 : Int32)), (0, .ref h_this)]) hx hb dX1_bordersInPlaces_4 rfl hl (by decide) rfl (fun ls hl => ?_)
  refine lv_iconst (v := (0 : Int32)) hx hb dX1_bordersInPlaces_5 (by decide) ?_
  refine lv_istore_n (lv' := [(3, .int (0 : Int32)), (2, .int (-6 : Int32)), (1, .int (0 : Int32)), (0, .ref h_this)]) hx hb dX1_bordersInPlaces_6 rfl hl (by decide) rfl (fun ls hl => ?_)
  obtain ⟨⟨n0_1, hi0_1⟩, vc⟩ := vc
  refine kloop (V := Int32 × Int32 × Int32) (I := fun n v => IX1_bordersInPlaces_7 v_there v_place v_stitches n (v.2.1) (v.2.2) (v.1)) (wv := fun v => [(h_this, .inr (1, [.int v_there, .int v_hair, .int v_year, .ref h_this_wool, .ref h_this_stitches, .ref h_this_place])), (h_this_place, .inl (cI, 10, .inl v_place)), (h_this_stitches, .inl (cI, 10, .inl v_stitches))]) (lv := fun v => [(0, .ref h_this), (1, .int (v.2.1)), (2, .int (v.2.2)), (3, .int (v.1))]) n0_1 ((0 : Int32), (0 : Int32), (-6 : Int32)) hi0_1 hP hD hS (lv_sub hl [3, 2, 1, 0] rfl) ?_
  intro n_1 v_1 hi_1 ih_1 H locs hP hD hS ls hl
  obtain ⟨i_2, i_3, i_4⟩ := v_1
  replace vc := vc n_1 i_2 i_3 i_4 hi_1
  have hP : va_P D vwCl [(h_this, .inr (1, [.int v_there, .int v_hair, .int v_year, .ref h_this_wool, .ref h_this_stitches, .ref h_this_place])), (h_this_place, .inl (cI, 10, .inl v_place)), (h_this_stitches, .inl (cI, 10, .inl v_stitches))] H := hP
  have hD : va_D A [(h_this, .inr (1, [.int v_there, .int v_hair, .int v_year, .ref h_this_wool, .ref h_this_stitches, .ref h_this_place])), (h_this_place, .inl (cI, 10, .inl v_place)), (h_this_stitches, .inl (cI, 10, .inl v_stitches))] := hD
  have hl : lv_has ls 5 [(0, .ref h_this), (1, .int i_3), (2, .int i_4), (3, .int i_2)] := hl
  refine lv_iload_n hx hb dX1_bordersInPlaces_7 rfl (lv_at hl 3 rfl) ?_
  refine lv_bipush (v := (10 : Int32)) hx hb dX1_bordersInPlaces_8 (by decide) ?_
  refine lv_icmp_ge (tgt := 66) hx hb dX1_bordersInPlaces_10 (by decide) (fun c_ => ?_) (fun c_ => ?_)
  · replace vc := vc.1 c_
    refine lv_iload_n hx hb dX1_bordersInPlaces_66 rfl (lv_at hl 1 rfl) ?_
    exact W.iret (v := i_3) hx hb hr (fun t ht hW => ⟨⟨i_3, (), rfl, vc, QB_mk (hP.sub [0, 1, 2] rfl) (hD.sub [0, 1, 2] rfl rfl) ht⟩, hS.F ht⟩) hS.2.2 dX1_bordersInPlaces_67
  · replace vc := vc.2 c_
    refine lv_aload_n hx hb dX1_bordersInPlaces_13 rfl (lv_at hl 0 rfl) ?_
    refine lv_iload_n hx hb dX1_bordersInPlaces_14 rfl (lv_at hl 3 rfl) ?_
    refine kj_i (wr := [(h_this_stitches, .inl (cI, 10, .inl v_stitches))]) (rest := []) (kV ⟨hx, hb, hml, hown, hts⟩ (kX1_whoIsAt _ h_this h_this_wool h_this_stitches h_this_place i_2 v_there v_hair v_year v_place vc.1) (cwV 1 hts gX1_bordersInPlaces_X1_whoIsAt rfl rfl rfl (by decide +kernel) ⟨(Nat.le_of_ble_eq_true rfl), (Nat.le_of_ble_eq_true rfl)⟩) hK hP hD [0, 1] rfl rfl 0 1 rfl rfl rfl rfl rfl hl.1 (Nat.le_of_ble_eq_true rfl) dX1_bordersInPlaces_15 ⟨(Nat.le_of_ble_eq_true rfl), (Nat.le_of_ble_eq_true rfl)⟩) hP hD hS hA [0, 1] [2] rfl rfl rfl rfl (fun r_5 u_ H locs hq_ hP hD hS => ?_)
    replace vc := vc.2 r_5  hq_
    have hP : va_P D vwCl [(h_this_stitches, .inl (cI, 10, .inl v_stitches)), (h_this, .inr (1, [.int v_there, .int v_hair, .int v_year, .ref h_this_wool, .ref h_this_stitches, .ref h_this_place])), (h_this_place, .inl (cI, 10, .inl v_place))] H := hP
    have hD : va_D A [(h_this_stitches, .inl (cI, 10, .inl v_stitches)), (h_this, .inr (1, [.int v_there, .int v_hair, .int v_year, .ref h_this_wool, .ref h_this_stitches, .ref h_this_place])), (h_this_place, .inl (cI, 10, .inl v_place))] := hD
    refine lv_istore (lv' := [(4, .int r_5), (0, .ref h_this), (1, .int i_3), (2, .int i_4), (3, .int i_2)]) hx hb dX1_bordersInPlaces_18 hl (by decide) rfl (fun ls hl => ?_)
    refine lv_iload hx hb dX1_bordersInPlaces_20 (lv_at hl 0 rfl) ?_
    refine lv_bipush (v := (-6 : Int32)) hx hb dX1_bordersInPlaces_22 (by decide) ?_
    refine lv_icmp_eq (tgt := 60) hx hb dX1_bordersInPlaces_24 (by decide) (fun c_ => ?_) (fun c_ => ?_)
    · replace vc := vc.1 c_
      obtain ⟨x_6, ex_6⟩ : ∃ y_ : Int32, y_ = (i_2 + (1 : Int32)) := ⟨_, rfl⟩
      replace vc := vc x_6 ex_6
      refine lv_iinc (v := x_6) (lv' := [(3, .int x_6), (4, .int r_5), (0, .ref h_this), (1, .int i_3), (2, .int i_4)]) hx hb dX1_bordersInPlaces_60 hl (k := 4) rfl (by rw [ex_6]; rfl) (by decide) rfl (fun ls hl => ?_)
      refine lv_goto (tgt := 7) hx hb dX1_bordersInPlaces_63 (by decide) ?_
      obtain ⟨n1_, hlt_, hi_⟩ := vc
      exact ih_1 n1_ (x_6, i_3, i_4) hlt_ hi_ _ _ (hP.sub [1, 2, 0] rfl) (hD.sub [1, 2, 0] rfl rfl) hS ls (lv_sub hl [2, 3, 4, 0] rfl)
    · replace vc := vc.2 c_
      refine lv_iload_n hx hb dX1_bordersInPlaces_27 rfl (lv_at hl 2 rfl) ?_
      refine lv_iload_n hx hb dX1_bordersInPlaces_28 rfl (lv_at hl 3 rfl) ?_
      refine lv_bipush (v := (-6 : Int32)) hx hb dX1_bordersInPlaces_29 (by decide) ?_
      refine lv_icmp_ne (tgt := 38) hx hb dX1_bordersInPlaces_31 (by decide) (fun c_ => ?_) (fun c_ => ?_)
      · replace vc := vc.1 c_
        refine lv_iload_n hx hb dX1_bordersInPlaces_38 rfl (lv_at hl 3 rfl) ?_
        refine lv_aload_n hx hb dX1_bordersInPlaces_39 rfl (lv_at hl 1 rfl) ?_
        refine va_get (D := D) (ci := 1) (v := .ref h_this_stitches) (C := RX1) (T := TX1) (N := 6) hx hb hts mcX1_bordersInPlaces_X1 hown hK.1 hP 1 rfl rfl 4 (by decide) (hts _ mwX1_bordersInPlaces_1) (fun _ h9 => h9) rfl dX1_bordersInPlaces_40 ?_
        refine lv_iload hx hb dX1_bordersInPlaces_43 (lv_at hl 0 rfl) ?_
        have hi_7 := vc.1
        replace vc := vc.2
        refine va_iald hx hb hK.1 hP 0 0 rfl rfl hi_7 dX1_bordersInPlaces_45 ?_
        refine lv_ixor hx hb dX1_bordersInPlaces_46 ?_
        refine kj0_i (rest := [.int i_3]) (kS ⟨hx, hb, hml, hown, hts⟩ (kJ6_bitCount_0f7a4 _ (i_4 ^^^ (v_stitches (r_5).toNatClampNeg)) vc.1) (va_cwS 1 hts gX1_bordersInPlaces_J6_bitCount_0f7a4 rfl rfl rfl (by decide +kernel) ⟨(Nat.le_of_ble_eq_true rfl), (Nat.le_of_ble_eq_true rfl)⟩) hK rfl rfl hl.1 (Nat.le_of_ble_eq_true rfl) dX1_bordersInPlaces_47 ⟨(Nat.le_of_ble_eq_true rfl), (Nat.le_of_ble_eq_true rfl)⟩) hP hS hA (fun r_8 H locs hq_ hP hS => ?_)
        replace vc := vc.2 r_8 hq_
        have hP : va_P D vwCl [(h_this_stitches, .inl (cI, 10, .inl v_stitches)), (h_this, .inr (1, [.int v_there, .int v_hair, .int v_year, .ref h_this_wool, .ref h_this_stitches, .ref h_this_place])), (h_this_place, .inl (cI, 10, .inl v_place))] H := hP
        refine lv_iadd hx hb dX1_bordersInPlaces_50 ?_
        refine lv_topi (fun x_9 ex_9 => ?_)
        replace vc := vc x_9 ex_9
        refine lv_istore_n (lv' := [(1, .int x_9), (4, .int r_5), (0, .ref h_this), (2, .int i_4), (3, .int i_2)]) hx hb dX1_bordersInPlaces_51 rfl hl (by decide) rfl (fun ls hl => ?_)
        refine lv_aload_n hx hb dX1_bordersInPlaces_52 rfl (lv_at hl 2 rfl) ?_
        refine va_get (D := D) (ci := 1) (v := .ref h_this_stitches) (C := RX1) (T := TX1) (N := 6) hx hb hts mcX1_bordersInPlaces_X1 hown hK.1 hP 1 rfl rfl 4 (by decide) (hts _ mwX1_bordersInPlaces_1) (fun _ h9 => h9) rfl dX1_bordersInPlaces_53 ?_
        refine lv_iload hx hb dX1_bordersInPlaces_56 (lv_at hl 1 rfl) ?_
        have hi_10 := vc.1
        replace vc := vc.2
        refine va_iald hx hb hK.1 hP 0 0 rfl rfl hi_10 dX1_bordersInPlaces_58 ?_
        refine lv_topi (fun x_11 ex_11 => ?_)
        replace vc := vc x_11 ex_11
        refine lv_istore_n (lv' := [(2, .int x_11), (1, .int x_9), (4, .int r_5), (0, .ref h_this), (3, .int i_2)]) hx hb dX1_bordersInPlaces_59 rfl hl (by decide) rfl (fun ls hl => ?_)
        obtain ⟨x_12, ex_12⟩ : ∃ y_ : Int32, y_ = (i_2 + (1 : Int32)) := ⟨_, rfl⟩
        replace vc := vc x_12 ex_12
        refine lv_iinc (v := x_12) (lv' := [(3, .int x_12), (2, .int x_11), (1, .int x_9), (4, .int r_5), (0, .ref h_this)]) hx hb dX1_bordersInPlaces_60 hl (k := 4) rfl (by rw [ex_12]; rfl) (by decide) rfl (fun ls hl => ?_)
        refine lv_goto (tgt := 7) hx hb dX1_bordersInPlaces_63 (by decide) ?_
        obtain ⟨n1_, hlt_, hi_⟩ := vc
        exact ih_1 n1_ (x_12, x_9, x_11) hlt_ hi_ _ _ (hP.sub [1, 2, 0] rfl) (hD.sub [1, 2, 0] rfl rfl) hS ls (lv_sub hl [4, 2, 1, 0] rfl)
      · replace vc := vc.2 c_
        refine lv_iconst (v := (0 : Int32)) hx hb dX1_bordersInPlaces_34 (by decide) ?_
        refine lv_goto (tgt := 50) hx hb dX1_bordersInPlaces_35 (by decide) ?_
        refine lv_iadd hx hb dX1_bordersInPlaces_50 ?_
        refine lv_topi (fun x_13 ex_13 => ?_)
        replace vc := vc x_13 ex_13
        refine lv_istore_n (lv' := [(1, .int x_13), (4, .int r_5), (0, .ref h_this), (2, .int i_4), (3, .int i_2)]) hx hb dX1_bordersInPlaces_51 rfl hl (by decide) rfl (fun ls hl => ?_)
        refine lv_aload_n hx hb dX1_bordersInPlaces_52 rfl (lv_at hl 2 rfl) ?_
        refine va_get (D := D) (ci := 1) (v := .ref h_this_stitches) (C := RX1) (T := TX1) (N := 6) hx hb hts mcX1_bordersInPlaces_X1 hown hK.1 hP 1 rfl rfl 4 (by decide) (hts _ mwX1_bordersInPlaces_1) (fun _ h9 => h9) rfl dX1_bordersInPlaces_53 ?_
        refine lv_iload hx hb dX1_bordersInPlaces_56 (lv_at hl 1 rfl) ?_
        have hi_14 := vc.1
        replace vc := vc.2
        refine va_iald hx hb hK.1 hP 0 0 rfl rfl hi_14 dX1_bordersInPlaces_58 ?_
        refine lv_topi (fun x_15 ex_15 => ?_)
        replace vc := vc x_15 ex_15
        refine lv_istore_n (lv' := [(2, .int x_15), (1, .int x_13), (4, .int r_5), (0, .ref h_this), (3, .int i_2)]) hx hb dX1_bordersInPlaces_59 rfl hl (by decide) rfl (fun ls hl => ?_)
        obtain ⟨x_16, ex_16⟩ : ∃ y_ : Int32, y_ = (i_2 + (1 : Int32)) := ⟨_, rfl⟩
        replace vc := vc x_16 ex_16
        refine lv_iinc (v := x_16) (lv' := [(3, .int x_16), (2, .int x_15), (1, .int x_13), (4, .int r_5), (0, .ref h_this)]) hx hb dX1_bordersInPlaces_60 hl (k := 4) rfl (by rw [ex_16]; rfl) (by decide) rfl (fun ls hl => ?_)
        refine lv_goto (tgt := 7) hx hb dX1_bordersInPlaces_63 (by decide) ?_
        obtain ⟨n1_, hlt_, hi_⟩ := vc
        exact ih_1 n1_ (x_16, x_13, x_15) hlt_ hi_ _ _ (hP.sub [1, 2, 0] rfl) (hD.sub [1, 2, 0] rfl rfl) hS ls (lv_sub hl [4, 2, 1, 0] rfl)

theorem mwX1_whyNot_1 : Cond.fieldLink RX1 18 "HassockSee$Diocese" "year" "I" ∈ wsX1_whyNot := List.mem_of_getElem? (i := 1) rfl
theorem mwX1_whyNot_2 : Cond.fieldLink RX1 15 "HassockSee$Diocese" "hair" "I" ∈ wsX1_whyNot := List.mem_of_getElem? (i := 2) rfl
theorem mwX1_whyNot_3 : Cond.fieldLink RX1 21 "HassockSee$Diocese" "wool" "[I" ∈ wsX1_whyNot := List.mem_of_getElem? (i := 3) rfl
theorem mcX1_whyNot_X1 : ∀ w ∈ u_ws RX1 TX1 6, w ∈ wsX1_whyNot := fun _ h => (List.mem_cons_of_mem _ (List.mem_append_right _ h))
def KX1_whyNot (l : Launch) (D : va_G) (cI cZ : ClassId) (P : Int32 → Int32 → Int32 → Int32 → Int32 → Int32 → (Nat → Int32) → Prop) (Q : Int32 → Int32 → Int32 → Int32 → Int32 → Int32 → (Nat → Int32) → Int32 → Prop) : Prop := ∀ (sz : Nat) (h_this h_this_wool h_this_stitches h_this_place : Nat) (p0 : Int32) (p1 : Int32) (p2 : Int32) (v_there : Int32) (v_hair : Int32) (v_year : Int32) (v_wool : (Nat → Int32)), P p0 p1 p2 v_there v_hair v_year v_wool → MI l yX1_whyNot wsX1_whyNot ({ frames := 2, cells := 0, slots := 0, locals := 42 }) [.ref h_this, .int p0, .int p1, .int p2] D cI cZ sz [(h_this, .inr (1, [.int v_there, .int v_hair, .int v_year, .ref h_this_wool, .ref h_this_stitches, .ref h_this_place])), (h_this_wool, .inl (cI, 10, .inl v_wool))] (fun r (u : Unit) => Q p0 p1 p2 v_there v_hair v_year v_wool r ) (fun u => [(h_this, .inr (1, [.int v_there, .int v_hair, .int v_year, .ref h_this_wool, .ref h_this_stitches, .ref h_this_place])), (h_this_wool, .inl (cI, 10, .inl v_wool))]) 0 0
set_option maxHeartbeats 4000000 in
set_option maxRecDepth 100000 in
theorem walkX1_whyNot {l : Launch} {D : va_G} {cI cZ : ClassId} {PX1_whyNot : Int32 → Int32 → Int32 → Int32 → Int32 → Int32 → (Nat → Int32) → Prop} {QX1_whyNot : Int32 → Int32 → Int32 → Int32 → Int32 → Int32 → (Nat → Int32) → Int32 → Prop} {PX1_isThere : Int32 → Int32 → Prop} {QX1_isThere : Int32 → Int32 → Int32 → Prop} {PX1_howMany : Int32 → Prop} {QX1_howMany : Int32 → Int32 → Prop} (kX1_isThere : KX1_isThere l D cI cZ PX1_isThere QX1_isThere) (kX1_howMany : KX1_howMany l D cI cZ PX1_howMany QX1_howMany) (hvc : ∀ (p0 : Int32) (p1 : Int32) (p2 : Int32) (v_there : Int32) (v_hair : Int32) (v_year : Int32) (v_wool : (Nat → Int32)), PX1_whyNot p0 p1 p2 v_there v_hair v_year v_wool → ((¬ p0 = (6 : Int32) → (PX1_isThere p1 v_there ∧ (∀ (r_1 : Int32), QX1_isThere p1 v_there r_1  → ((¬ r_1 = 0 → ((p0 = (1 : Int32) → (((5 : Int32) ≤ v_hair → (vp_in p1 10 ∧ (((v_wool (p1).toNatClampNeg) < (99 : Int32) → (QX1_whyNot p0 p1 p2 v_there v_hair v_year v_wool (0 : Int32) )) ∧ (¬ (v_wool (p1).toNatClampNeg) < (99 : Int32) → (QX1_whyNot p0 p1 p2 v_there v_hair v_year v_wool (3 : Int32) ))))) ∧ (¬ (5 : Int32) ≤ v_hair → (QX1_whyNot p0 p1 p2 v_there v_hair v_year v_wool (2 : Int32) )))) ∧ (¬ p0 = (1 : Int32) → ((p0 = (2 : Int32) → (QX1_whyNot p0 p1 p2 v_there v_hair v_year v_wool (0 : Int32) )) ∧ (¬ p0 = (2 : Int32) → ((p0 = (3 : Int32) → (PX1_isThere p2 v_there ∧ (∀ (r_3 : Int32), QX1_isThere p2 v_there r_3  → ((¬ r_3 = 0 → ((¬ p1 = p2 → (QX1_whyNot p0 p1 p2 v_there v_hair v_year v_wool (0 : Int32) )) ∧ (p1 = p2 → (QX1_whyNot p0 p1 p2 v_there v_hair v_year v_wool (4 : Int32) )))) ∧ (r_3 = 0 → (QX1_whyNot p0 p1 p2 v_there v_hair v_year v_wool (1 : Int32) )))))) ∧ (¬ p0 = (3 : Int32) → ((p0 = (4 : Int32) → (PX1_isThere p2 v_there ∧ (∀ (r_4 : Int32), QX1_isThere p2 v_there r_4  → ((¬ r_4 = 0 → ((¬ p1 = p2 → (QX1_whyNot p0 p1 p2 v_there v_hair v_year v_wool (0 : Int32) )) ∧ (p1 = p2 → (QX1_whyNot p0 p1 p2 v_there v_hair v_year v_wool (4 : Int32) )))) ∧ (r_4 = 0 → (QX1_whyNot p0 p1 p2 v_there v_hair v_year v_wool (1 : Int32) )))))) ∧ (¬ p0 = (4 : Int32) → ((p0 = (5 : Int32) → (PX1_howMany v_there ∧ (∀ (r_5 : Int32), QX1_howMany v_there r_5  → ((¬ r_5 = (1 : Int32) → (QX1_whyNot p0 p1 p2 v_there v_hair v_year v_wool (0 : Int32) )) ∧ (r_5 = (1 : Int32) → (QX1_whyNot p0 p1 p2 v_there v_hair v_year v_wool (5 : Int32) )))))) ∧ (¬ p0 = (5 : Int32) → (QX1_whyNot p0 p1 p2 v_there v_hair v_year v_wool (0 : Int32) )))))))))))) ∧ (r_1 = 0 → (QX1_whyNot p0 p1 p2 v_there v_hair v_year v_wool (1 : Int32) )))))) ∧ (p0 = (6 : Int32) → ((v_year < (99 : Int32) → (QX1_whyNot p0 p1 p2 v_there v_hair v_year v_wool (0 : Int32) )) ∧ (¬ v_year < (99 : Int32) → (QX1_whyNot p0 p1 p2 v_there v_hair v_year v_wool (6 : Int32) )))))) : KX1_whyNot l D cI cZ PX1_whyNot QX1_whyNot := by
  intro sz h_this h_this_wool h_this_stitches h_this_place p0 p1 p2 v_there v_hair v_year v_wool hpre
  have vc := hvc p0 p1 p2 v_there v_hair v_year v_wool hpre
  clear hvc
  refine Met.ofW (cc := cX1_whyNot) (maxL := 4) (ret := (some .int)) (by decide) rfl ?_
  intro p e s m args below meth c s₁ B hml hv
  obtain ⟨rfl, hsz, hP, hK, hD0⟩ := hv
  have hx := B.exec
  have hb := B.bytes
  have hr := B.returns
  have hts := atoms_spec (ws := wsX1_whyNot) B.pre
  have hown : s.vm.findClass RX1 = some m.cls := findClass_of_methodNamed B.named
  have hlocks := B.notSynchronized
  subst hsz
  have hD := hD0.self (sz := s.heap.size)
  generalize hAe : va_A [(h_this, .inr (1, [.int v_there, .int v_hair, .int v_year, .ref h_this_wool, .ref h_this_stitches, .ref h_this_place])), (h_this_wool, .inl (cI, 10, .inl v_wool))] s.heap.size = A at hD ⊢
  have hA : ∀ q : Nat, s.heap.size ≤ q → A q := fun q h => by rw [← hAe]; exact Or.inr h
  have hS : va_S A s.heap s.heap [] := va_S.rf
  have hP : va_P D vwCl [(h_this, .inr (1, [.int v_there, .int v_hair, .int v_year, .ref h_this_wool, .ref h_this_stitches, .ref h_this_place])), (h_this_wool, .inl (cI, 10, .inl v_wool))] s.heap := hP
  have hl := lv_entry ([.ref h_this, .int p0, .int p1, .int p2]) (n := 4) (Nat.le_of_ble_eq_true rfl)
  rw [lg_entry_eq]
  generalize (lg_sl ([.ref h_this, .int p0, .int p1, .int p2]) ++ List.replicate (4 - (lg_sl ([.ref h_this, .int p0, .int p1, .int p2])).length) Slot.unset).toArray = ls at hl ⊢
  have hl : lv_has ls 4 [(0, .ref h_this), (1, .int p0), (2, .int p1), (3, .int p2)] := hl
  refine lv_iload_n hx hb dX1_whyNot_0 rfl (lv_at hl 1 rfl) ?_
  refine lv_bipush (v := (6 : Int32)) hx hb dX1_whyNot_1 (by decide) ?_
  refine lv_icmp_ne (tgt := 22) hx hb dX1_whyNot_3 (by decide) (fun c_ => ?_) (fun c_ => ?_)
  · replace vc := vc.1 c_
    refine lv_aload_n hx hb dX1_whyNot_22 rfl (lv_at hl 0 rfl) ?_
    refine lv_iload_n hx hb dX1_whyNot_23 rfl (lv_at hl 2 rfl) ?_
    refine kj_i (wr := [(h_this_wool, .inl (cI, 10, .inl v_wool))]) (rest := []) (kV ⟨hx, hb, hml, hown, hts⟩ (kX1_isThere _ h_this h_this_wool h_this_stitches h_this_place p1 v_there v_hair v_year vc.1) (cwV 1 hts gX1_whyNot_X1_isThere rfl rfl rfl (by decide +kernel) ⟨(Nat.le_of_ble_eq_true rfl), (Nat.le_of_ble_eq_true rfl)⟩) hK hP hD [0] rfl rfl 0 1 rfl rfl rfl rfl rfl hl.1 (Nat.le_of_ble_eq_true rfl) dX1_whyNot_24 ⟨(Nat.le_of_ble_eq_true rfl), (Nat.le_of_ble_eq_true rfl)⟩) hP hD hS hA [0] [1] rfl rfl rfl rfl (fun r_1 u_ H locs hq_ hP hD hS => ?_)
    replace vc := vc.2 r_1  hq_
    have hP : va_P D vwCl [(h_this_wool, .inl (cI, 10, .inl v_wool)), (h_this, .inr (1, [.int v_there, .int v_hair, .int v_year, .ref h_this_wool, .ref h_this_stitches, .ref h_this_place]))] H := hP
    have hD : va_D A [(h_this_wool, .inl (cI, 10, .inl v_wool)), (h_this, .inr (1, [.int v_there, .int v_hair, .int v_year, .ref h_this_wool, .ref h_this_stitches, .ref h_this_place]))] := hD
    refine lv_if_ne (tgt := 32) hx hb dX1_whyNot_27 (by decide) (fun c_ => ?_) (fun c_ => ?_)
    · replace vc := vc.1 c_
      refine lv_iload_n hx hb dX1_whyNot_32 rfl (lv_at hl 1 rfl) ?_
      by_cases c1_0 : p0 = (1 : Int32)
      · replace vc := vc.1 c1_0
        refine lv_tableIn (off := 35) (tgt := 68) hx hb dX1_whyNot_33 (by rw [c1_0]; decide) (by rw [c1_0]; decide) (by rw [c1_0]; rfl) (by decide) ?_
        refine lv_aload_n hx hb dX1_whyNot_68 rfl (lv_at hl 0 rfl) ?_
        refine va_get (D := D) (ci := 1) (v := .int v_hair) (C := RX1) (T := TX1) (N := 6) hx hb hts mcX1_whyNot_X1 hown hK.1 hP 1 rfl rfl 1 (by decide) (hts _ mwX1_whyNot_2) (fun _ h9 => h9) rfl dX1_whyNot_69 ?_
        refine lv_iconst (v := (5 : Int32)) hx hb dX1_whyNot_72 (by decide) ?_
        refine lv_icmp_ge (tgt := 78) hx hb dX1_whyNot_73 (by decide) (fun c_ => ?_) (fun c_ => ?_)
        · replace vc := vc.1 c_
          refine lv_aload_n hx hb dX1_whyNot_78 rfl (lv_at hl 0 rfl) ?_
          refine va_get (D := D) (ci := 1) (v := .ref h_this_wool) (C := RX1) (T := TX1) (N := 6) hx hb hts mcX1_whyNot_X1 hown hK.1 hP 1 rfl rfl 3 (by decide) (hts _ mwX1_whyNot_3) (fun _ h9 => h9) rfl dX1_whyNot_79 ?_
          refine lv_iload_n hx hb dX1_whyNot_82 rfl (lv_at hl 2 rfl) ?_
          have hi_2 := vc.1
          replace vc := vc.2
          refine va_iald hx hb hK.1 hP 0 0 rfl rfl hi_2 dX1_whyNot_83 ?_
          refine lv_bipush (v := (99 : Int32)) hx hb dX1_whyNot_84 (by decide) ?_
          refine lv_icmp_lt (tgt := 93) hx hb dX1_whyNot_86 (by decide) (fun c_ => ?_) (fun c_ => ?_)
          · replace vc := vc.1 c_
            refine lv_iconst (v := (0 : Int32)) hx hb dX1_whyNot_93 (by decide) ?_
            exact W.iret (v := (0 : Int32)) hx hb hr (fun t ht hW => ⟨⟨(0 : Int32), (), rfl, vc, QB_mk (hP.sub [1, 0] rfl) (hD.sub [1, 0] rfl rfl) ht⟩, hS.F ht⟩) hS.2.2 dX1_whyNot_94
          · replace vc := vc.2 c_
            refine lv_iconst (v := (3 : Int32)) hx hb dX1_whyNot_89 (by decide) ?_
            refine lv_goto (tgt := 94) hx hb dX1_whyNot_90 (by decide) ?_
            exact W.iret (v := (3 : Int32)) hx hb hr (fun t ht hW => ⟨⟨(3 : Int32), (), rfl, vc, QB_mk (hP.sub [1, 0] rfl) (hD.sub [1, 0] rfl rfl) ht⟩, hS.F ht⟩) hS.2.2 dX1_whyNot_94
        · replace vc := vc.2 c_
          refine lv_iconst (v := (2 : Int32)) hx hb dX1_whyNot_76 (by decide) ?_
          exact W.iret (v := (2 : Int32)) hx hb hr (fun t ht hW => ⟨⟨(2 : Int32), (), rfl, vc, QB_mk (hP.sub [1, 0] rfl) (hD.sub [1, 0] rfl rfl) ht⟩, hS.F ht⟩) hS.2.2 dX1_whyNot_77
      · replace vc := vc.2 c1_0
        by_cases c1_1 : p0 = (2 : Int32)
        · replace vc := vc.1 c1_1
          refine lv_tableIn (off := 97) (tgt := 130) hx hb dX1_whyNot_33 (by rw [c1_1]; decide) (by rw [c1_1]; decide) (by rw [c1_1]; rfl) (by decide) ?_
          refine lv_iconst (v := (0 : Int32)) hx hb dX1_whyNot_130 (by decide) ?_
          exact W.iret (v := (0 : Int32)) hx hb hr (fun t ht hW => ⟨⟨(0 : Int32), (), rfl, vc, QB_mk (hP.sub [1, 0] rfl) (hD.sub [1, 0] rfl rfl) ht⟩, hS.F ht⟩) hS.2.2 dX1_whyNot_131
        · replace vc := vc.2 c1_1
          by_cases c1_2 : p0 = (3 : Int32)
          · replace vc := vc.1 c1_2
            refine lv_tableIn (off := 62) (tgt := 95) hx hb dX1_whyNot_33 (by rw [c1_2]; decide) (by rw [c1_2]; decide) (by rw [c1_2]; rfl) (by decide) ?_
            refine lv_aload_n hx hb dX1_whyNot_95 rfl (lv_at hl 0 rfl) ?_
            refine lv_iload_n hx hb dX1_whyNot_96 rfl (lv_at hl 3 rfl) ?_
            refine kj_i (wr := [(h_this_wool, .inl (cI, 10, .inl v_wool))]) (rest := []) (kV ⟨hx, hb, hml, hown, hts⟩ (kX1_isThere _ h_this h_this_wool h_this_stitches h_this_place p2 v_there v_hair v_year vc.1) (cwV 1 hts gX1_whyNot_X1_isThere rfl rfl rfl (by decide +kernel) ⟨(Nat.le_of_ble_eq_true rfl), (Nat.le_of_ble_eq_true rfl)⟩) hK hP hD [1] rfl rfl 0 1 rfl rfl rfl rfl rfl hl.1 (Nat.le_of_ble_eq_true rfl) dX1_whyNot_97 ⟨(Nat.le_of_ble_eq_true rfl), (Nat.le_of_ble_eq_true rfl)⟩) hP hD hS hA [1] [0] rfl rfl rfl rfl (fun r_3 u_ H locs hq_ hP hD hS => ?_)
            replace vc := vc.2 r_3  hq_
            have hP : va_P D vwCl [(h_this_wool, .inl (cI, 10, .inl v_wool)), (h_this, .inr (1, [.int v_there, .int v_hair, .int v_year, .ref h_this_wool, .ref h_this_stitches, .ref h_this_place]))] H := hP
            have hD : va_D A [(h_this_wool, .inl (cI, 10, .inl v_wool)), (h_this, .inr (1, [.int v_there, .int v_hair, .int v_year, .ref h_this_wool, .ref h_this_stitches, .ref h_this_place]))] := hD
            refine lv_if_ne (tgt := 105) hx hb dX1_whyNot_100 (by decide) (fun c_ => ?_) (fun c_ => ?_)
            · replace vc := vc.1 c_
              refine lv_iload_n hx hb dX1_whyNot_105 rfl (lv_at hl 2 rfl) ?_
              refine lv_iload_n hx hb dX1_whyNot_106 rfl (lv_at hl 3 rfl) ?_
              refine lv_icmp_ne (tgt := 114) hx hb dX1_whyNot_107 (by decide) (fun c_ => ?_) (fun c_ => ?_)
              · replace vc := vc.1 c_
                refine lv_iconst (v := (0 : Int32)) hx hb dX1_whyNot_114 (by decide) ?_
                exact W.iret (v := (0 : Int32)) hx hb hr (fun t ht hW => ⟨⟨(0 : Int32), (), rfl, vc, QB_mk (hP.sub [1, 0] rfl) (hD.sub [1, 0] rfl rfl) ht⟩, hS.F ht⟩) hS.2.2 dX1_whyNot_115
              · replace vc := vc.2 c_
                refine lv_iconst (v := (4 : Int32)) hx hb dX1_whyNot_110 (by decide) ?_
                refine lv_goto (tgt := 115) hx hb dX1_whyNot_111 (by decide) ?_
                exact W.iret (v := (4 : Int32)) hx hb hr (fun t ht hW => ⟨⟨(4 : Int32), (), rfl, vc, QB_mk (hP.sub [1, 0] rfl) (hD.sub [1, 0] rfl rfl) ht⟩, hS.F ht⟩) hS.2.2 dX1_whyNot_115
            · replace vc := vc.2 c_
              refine lv_iconst (v := (1 : Int32)) hx hb dX1_whyNot_103 (by decide) ?_
              exact W.iret (v := (1 : Int32)) hx hb hr (fun t ht hW => ⟨⟨(1 : Int32), (), rfl, vc, QB_mk (hP.sub [1, 0] rfl) (hD.sub [1, 0] rfl rfl) ht⟩, hS.F ht⟩) hS.2.2 dX1_whyNot_104
          · replace vc := vc.2 c1_2
            by_cases c1_3 : p0 = (4 : Int32)
            · replace vc := vc.1 c1_3
              refine lv_tableIn (off := 62) (tgt := 95) hx hb dX1_whyNot_33 (by rw [c1_3]; decide) (by rw [c1_3]; decide) (by rw [c1_3]; rfl) (by decide) ?_
              refine lv_aload_n hx hb dX1_whyNot_95 rfl (lv_at hl 0 rfl) ?_
              refine lv_iload_n hx hb dX1_whyNot_96 rfl (lv_at hl 3 rfl) ?_
              refine kj_i (wr := [(h_this_wool, .inl (cI, 10, .inl v_wool))]) (rest := []) (kV ⟨hx, hb, hml, hown, hts⟩ (kX1_isThere _ h_this h_this_wool h_this_stitches h_this_place p2 v_there v_hair v_year vc.1) (cwV 1 hts gX1_whyNot_X1_isThere rfl rfl rfl (by decide +kernel) ⟨(Nat.le_of_ble_eq_true rfl), (Nat.le_of_ble_eq_true rfl)⟩) hK hP hD [1] rfl rfl 0 1 rfl rfl rfl rfl rfl hl.1 (Nat.le_of_ble_eq_true rfl) dX1_whyNot_97 ⟨(Nat.le_of_ble_eq_true rfl), (Nat.le_of_ble_eq_true rfl)⟩) hP hD hS hA [1] [0] rfl rfl rfl rfl (fun r_4 u_ H locs hq_ hP hD hS => ?_)
              replace vc := vc.2 r_4  hq_
              have hP : va_P D vwCl [(h_this_wool, .inl (cI, 10, .inl v_wool)), (h_this, .inr (1, [.int v_there, .int v_hair, .int v_year, .ref h_this_wool, .ref h_this_stitches, .ref h_this_place]))] H := hP
              have hD : va_D A [(h_this_wool, .inl (cI, 10, .inl v_wool)), (h_this, .inr (1, [.int v_there, .int v_hair, .int v_year, .ref h_this_wool, .ref h_this_stitches, .ref h_this_place]))] := hD
              refine lv_if_ne (tgt := 105) hx hb dX1_whyNot_100 (by decide) (fun c_ => ?_) (fun c_ => ?_)
              · replace vc := vc.1 c_
                refine lv_iload_n hx hb dX1_whyNot_105 rfl (lv_at hl 2 rfl) ?_
                refine lv_iload_n hx hb dX1_whyNot_106 rfl (lv_at hl 3 rfl) ?_
                refine lv_icmp_ne (tgt := 114) hx hb dX1_whyNot_107 (by decide) (fun c_ => ?_) (fun c_ => ?_)
                · replace vc := vc.1 c_
                  refine lv_iconst (v := (0 : Int32)) hx hb dX1_whyNot_114 (by decide) ?_
                  exact W.iret (v := (0 : Int32)) hx hb hr (fun t ht hW => ⟨⟨(0 : Int32), (), rfl, vc, QB_mk (hP.sub [1, 0] rfl) (hD.sub [1, 0] rfl rfl) ht⟩, hS.F ht⟩) hS.2.2 dX1_whyNot_115
                · replace vc := vc.2 c_
                  refine lv_iconst (v := (4 : Int32)) hx hb dX1_whyNot_110 (by decide) ?_
                  refine lv_goto (tgt := 115) hx hb dX1_whyNot_111 (by decide) ?_
                  exact W.iret (v := (4 : Int32)) hx hb hr (fun t ht hW => ⟨⟨(4 : Int32), (), rfl, vc, QB_mk (hP.sub [1, 0] rfl) (hD.sub [1, 0] rfl rfl) ht⟩, hS.F ht⟩) hS.2.2 dX1_whyNot_115
              · replace vc := vc.2 c_
                refine lv_iconst (v := (1 : Int32)) hx hb dX1_whyNot_103 (by decide) ?_
                exact W.iret (v := (1 : Int32)) hx hb hr (fun t ht hW => ⟨⟨(1 : Int32), (), rfl, vc, QB_mk (hP.sub [1, 0] rfl) (hD.sub [1, 0] rfl rfl) ht⟩, hS.F ht⟩) hS.2.2 dX1_whyNot_104
            · replace vc := vc.2 c1_3
              by_cases c1_4 : p0 = (5 : Int32)
              · replace vc := vc.1 c1_4
                refine lv_tableIn (off := 83) (tgt := 116) hx hb dX1_whyNot_33 (by rw [c1_4]; decide) (by rw [c1_4]; decide) (by rw [c1_4]; rfl) (by decide) ?_
                refine lv_aload_n hx hb dX1_whyNot_116 rfl (lv_at hl 0 rfl) ?_
                refine kj_i (wr := [(h_this_wool, .inl (cI, 10, .inl v_wool))]) (rest := []) (kV ⟨hx, hb, hml, hown, hts⟩ (kX1_howMany _ h_this h_this_wool h_this_stitches h_this_place v_there v_hair v_year vc.1) (cwV 0 hts gX1_whyNot_X1_howMany rfl rfl rfl (by decide +kernel) ⟨(Nat.le_of_ble_eq_true rfl), (Nat.le_of_ble_eq_true rfl)⟩) hK hP hD [1] rfl rfl 0 1 rfl rfl rfl rfl rfl hl.1 (Nat.le_of_ble_eq_true rfl) dX1_whyNot_117 ⟨(Nat.le_of_ble_eq_true rfl), (Nat.le_of_ble_eq_true rfl)⟩) hP hD hS hA [1] [0] rfl rfl rfl rfl (fun r_5 u_ H locs hq_ hP hD hS => ?_)
                replace vc := vc.2 r_5  hq_
                have hP : va_P D vwCl [(h_this_wool, .inl (cI, 10, .inl v_wool)), (h_this, .inr (1, [.int v_there, .int v_hair, .int v_year, .ref h_this_wool, .ref h_this_stitches, .ref h_this_place]))] H := hP
                have hD : va_D A [(h_this_wool, .inl (cI, 10, .inl v_wool)), (h_this, .inr (1, [.int v_there, .int v_hair, .int v_year, .ref h_this_wool, .ref h_this_stitches, .ref h_this_place]))] := hD
                refine lv_iconst (v := (1 : Int32)) hx hb dX1_whyNot_120 (by decide) ?_
                refine lv_icmp_ne (tgt := 128) hx hb dX1_whyNot_121 (by decide) (fun c_ => ?_) (fun c_ => ?_)
                · replace vc := vc.1 c_
                  refine lv_iconst (v := (0 : Int32)) hx hb dX1_whyNot_128 (by decide) ?_
                  exact W.iret (v := (0 : Int32)) hx hb hr (fun t ht hW => ⟨⟨(0 : Int32), (), rfl, vc, QB_mk (hP.sub [1, 0] rfl) (hD.sub [1, 0] rfl rfl) ht⟩, hS.F ht⟩) hS.2.2 dX1_whyNot_129
                · replace vc := vc.2 c_
                  refine lv_iconst (v := (5 : Int32)) hx hb dX1_whyNot_124 (by decide) ?_
                  refine lv_goto (tgt := 129) hx hb dX1_whyNot_125 (by decide) ?_
                  exact W.iret (v := (5 : Int32)) hx hb hr (fun t ht hW => ⟨⟨(5 : Int32), (), rfl, vc, QB_mk (hP.sub [1, 0] rfl) (hD.sub [1, 0] rfl rfl) ht⟩, hS.F ht⟩) hS.2.2 dX1_whyNot_129
              · replace vc := vc.2 c1_4
                refine lv_tableOut (tgt := 130) hx hb dX1_whyNot_33 (by have q0_ := neT c1_0 (n := 1) (by decide); have q1_ := neT c1_1 (n := 2) (by decide); have q2_ := neT c1_2 (n := 3) (by decide); have q3_ := neT c1_3 (n := 4) (by decide); have q4_ := neT c1_4 (n := 5) (by decide); omega) (by decide) ?_
                refine lv_iconst (v := (0 : Int32)) hx hb dX1_whyNot_130 (by decide) ?_
                exact W.iret (v := (0 : Int32)) hx hb hr (fun t ht hW => ⟨⟨(0 : Int32), (), rfl, vc, QB_mk (hP.sub [1, 0] rfl) (hD.sub [1, 0] rfl rfl) ht⟩, hS.F ht⟩) hS.2.2 dX1_whyNot_131
    · replace vc := vc.2 c_
      refine lv_iconst (v := (1 : Int32)) hx hb dX1_whyNot_30 (by decide) ?_
      exact W.iret (v := (1 : Int32)) hx hb hr (fun t ht hW => ⟨⟨(1 : Int32), (), rfl, vc, QB_mk (hP.sub [1, 0] rfl) (hD.sub [1, 0] rfl rfl) ht⟩, hS.F ht⟩) hS.2.2 dX1_whyNot_31
  · replace vc := vc.2 c_
    refine lv_aload_n hx hb dX1_whyNot_6 rfl (lv_at hl 0 rfl) ?_
    refine va_get (D := D) (ci := 1) (v := .int v_year) (C := RX1) (T := TX1) (N := 6) hx hb hts mcX1_whyNot_X1 hown hK.1 hP 0 rfl rfl 2 (by decide) (hts _ mwX1_whyNot_1) (fun _ h9 => h9) rfl dX1_whyNot_7 ?_
    refine lv_bipush (v := (99 : Int32)) hx hb dX1_whyNot_10 (by decide) ?_
    refine lv_icmp_lt (tgt := 20) hx hb dX1_whyNot_12 (by decide) (fun c_ => ?_) (fun c_ => ?_)
    · replace vc := vc.1 c_
      refine lv_iconst (v := (0 : Int32)) hx hb dX1_whyNot_20 (by decide) ?_
      exact W.iret (v := (0 : Int32)) hx hb hr (fun t ht hW => ⟨⟨(0 : Int32), (), rfl, vc, QB_mk (hP.sub [0, 1] rfl) (hD.sub [0, 1] rfl rfl) ht⟩, hS.F ht⟩) hS.2.2 dX1_whyNot_21
    · replace vc := vc.2 c_
      refine lv_bipush (v := (6 : Int32)) hx hb dX1_whyNot_15 (by decide) ?_
      refine lv_goto (tgt := 21) hx hb dX1_whyNot_17 (by decide) ?_
      exact W.iret (v := (6 : Int32)) hx hb hr (fun t ht hW => ⟨⟨(6 : Int32), (), rfl, vc, QB_mk (hP.sub [0, 1] rfl) (hD.sub [0, 1] rfl rfl) ht⟩, hS.F ht⟩) hS.2.2 dX1_whyNot_21

theorem mwX1_kneelOn_1 : Cond.fieldLink RX1 21 "HassockSee$Diocese" "wool" "[I" ∈ wsX1_kneelOn := List.mem_of_getElem? (i := 1) rfl
theorem mcX1_kneelOn_X1 : ∀ w ∈ u_ws RX1 TX1 6, w ∈ wsX1_kneelOn := fun _ h => (List.mem_cons_of_mem _ (List.mem_append_right _ h))
def KX1_kneelOn (l : Launch) (D : va_G) (cI cZ : ClassId) (P : Int32 → Int32 → Int32 → (Nat → Int32) → Prop) (Q : Int32 → Int32 → Int32 → (Nat → Int32) → Int32 → (Nat → Int32) → Prop) : Prop := ∀ (sz : Nat) (h_this h_this_wool h_this_stitches h_this_place : Nat) (p0 : Int32) (p1 : Int32) (v_there : Int32) (v_hair : Int32) (v_year : Int32) (v_wool : (Nat → Int32)), P p0 p1 v_there v_wool → MV l yX1_kneelOn wsX1_kneelOn ({ frames := 1, cells := 0, slots := 0, locals := 21 }) [.ref h_this, .int p0, .int p1] D cI cZ sz [(h_this, .inr (1, [.int v_there, .int v_hair, .int v_year, .ref h_this_wool, .ref h_this_stitches, .ref h_this_place])), (h_this_wool, .inl (cI, 10, .inl v_wool))] (fun (u : Int32 × (Nat → Int32)) => Q p0 p1 v_there v_wool (u.1) (u.2)) (fun u => [(h_this, .inr (1, [.int (u.1), .int v_hair, .int v_year, .ref h_this_wool, .ref h_this_stitches, .ref h_this_place])), (h_this_wool, .inl (cI, 10, .inl (u.2)))]) 0 0
set_option maxHeartbeats 4000000 in
set_option maxRecDepth 100000 in
theorem walkX1_kneelOn {l : Launch} {D : va_G} {cI cZ : ClassId} {PX1_kneelOn : Int32 → Int32 → Int32 → (Nat → Int32) → Prop} {QX1_kneelOn : Int32 → Int32 → Int32 → (Nat → Int32) → Int32 → (Nat → Int32) → Prop} {PX1_takeAway : Int32 → Int32 → Prop} {QX1_takeAway : Int32 → Int32 → Int32 → Prop} (kX1_takeAway : KX1_takeAway l D cI cZ PX1_takeAway QX1_takeAway) (hvc : ∀ (p0 : Int32) (p1 : Int32) (v_there : Int32) (v_wool : (Nat → Int32)), PX1_kneelOn p0 p1 v_there v_wool → (vp_in p0 10 ∧ (∀ x_2 : Int32, x_2 = ((v_wool (p0).toNatClampNeg) - ((3 : Int32) * p1)) → (vp_in p0 10 ∧ (vp_in p0 10 ∧ ((0 < ((upd v_wool (p0).toNatClampNeg x_2) (p0).toNatClampNeg) → (QX1_kneelOn p0 p1 v_there v_wool v_there (upd v_wool (p0).toNatClampNeg x_2))) ∧ (¬ 0 < ((upd v_wool (p0).toNatClampNeg x_2) (p0).toNatClampNeg) → (PX1_takeAway p0 v_there ∧ (∀ (g_5 : Int32), QX1_takeAway p0 v_there g_5 → (QX1_kneelOn p0 p1 v_there v_wool g_5 (upd v_wool (p0).toNatClampNeg x_2))))))))))) : KX1_kneelOn l D cI cZ PX1_kneelOn QX1_kneelOn := by
  intro sz h_this h_this_wool h_this_stitches h_this_place p0 p1 v_there v_hair v_year v_wool hpre
  have vc := hvc p0 p1 v_there v_wool hpre
  clear hvc
  refine Met.ofW (cc := cX1_kneelOn) (maxL := 3) (ret := none) (by decide) rfl ?_
  intro p e s m args below meth c s₁ B hml hv
  obtain ⟨rfl, hsz, hP, hK, hD0⟩ := hv
  have hx := B.exec
  have hb := B.bytes
  have hr := B.returns
  have hts := atoms_spec (ws := wsX1_kneelOn) B.pre
  have hown : s.vm.findClass RX1 = some m.cls := findClass_of_methodNamed B.named
  have hlocks := B.notSynchronized
  subst hsz
  have hD := hD0.self (sz := s.heap.size)
  generalize hAe : va_A [(h_this, .inr (1, [.int v_there, .int v_hair, .int v_year, .ref h_this_wool, .ref h_this_stitches, .ref h_this_place])), (h_this_wool, .inl (cI, 10, .inl v_wool))] s.heap.size = A at hD ⊢
  have hA : ∀ q : Nat, s.heap.size ≤ q → A q := fun q h => by rw [← hAe]; exact Or.inr h
  have hS : va_S A s.heap s.heap [] := va_S.rf
  have hP : va_P D vwCl [(h_this, .inr (1, [.int v_there, .int v_hair, .int v_year, .ref h_this_wool, .ref h_this_stitches, .ref h_this_place])), (h_this_wool, .inl (cI, 10, .inl v_wool))] s.heap := hP
  have hl := lv_entry ([.ref h_this, .int p0, .int p1]) (n := 3) (Nat.le_of_ble_eq_true rfl)
  rw [lg_entry_eq]
  generalize (lg_sl ([.ref h_this, .int p0, .int p1]) ++ List.replicate (3 - (lg_sl ([.ref h_this, .int p0, .int p1])).length) Slot.unset).toArray = ls at hl ⊢
  have hl : lv_has ls 3 [(0, .ref h_this), (1, .int p0), (2, .int p1)] := hl
  refine lv_aload_n hx hb dX1_kneelOn_0 rfl (lv_at hl 0 rfl) ?_
  refine va_get (D := D) (ci := 1) (v := .ref h_this_wool) (C := RX1) (T := TX1) (N := 6) hx hb hts mcX1_kneelOn_X1 hown hK.1 hP 0 rfl rfl 3 (by decide) (hts _ mwX1_kneelOn_1) (fun _ h9 => h9) rfl dX1_kneelOn_1 ?_
  refine lv_iload_n hx hb dX1_kneelOn_4 rfl (lv_at hl 1 rfl) ?_
  refine lv_dup2_11 hx hb dX1_kneelOn_5 rfl rfl ?_
  have hi_1 := vc.1
  replace vc := vc.2
  refine va_iald hx hb hK.1 hP 1 0 rfl rfl hi_1 dX1_kneelOn_6 ?_
  refine lv_iconst (v := (3 : Int32)) hx hb dX1_kneelOn_7 (by decide) ?_
  refine lv_iload_n hx hb dX1_kneelOn_8 rfl (lv_at hl 2 rfl) ?_
  refine lv_imul hx hb dX1_kneelOn_9 ?_
  refine lv_isub hx hb dX1_kneelOn_10 ?_
  refine lv_topi (fun x_2 ex_2 => ?_)
  replace vc := vc x_2 ex_2
  have hi_3 := vc.1
  replace vc := vc.2
  refine va_iast hx hb hK.1 hP hD hS 1 0 rfl rfl hi_3 dX1_kneelOn_11 (fun H locs hP hD hS => ?_)
  have hP : va_P D vwCl [(h_this, .inr (1, [.int v_there, .int v_hair, .int v_year, .ref h_this_wool, .ref h_this_stitches, .ref h_this_place])), (h_this_wool, .inl (cI, 10, .inl (upd v_wool (p0).toNatClampNeg x_2)))] H := hP
  have hD : va_D A [(h_this, .inr (1, [.int v_there, .int v_hair, .int v_year, .ref h_this_wool, .ref h_this_stitches, .ref h_this_place])), (h_this_wool, .inl (cI, 10, .inl (upd v_wool (p0).toNatClampNeg x_2)))] := hD
  refine lv_aload_n hx hb dX1_kneelOn_12 rfl (lv_at hl 0 rfl) ?_
  refine va_get (D := D) (ci := 1) (v := .ref h_this_wool) (C := RX1) (T := TX1) (N := 6) hx hb hts mcX1_kneelOn_X1 hown hK.1 hP 0 rfl rfl 3 (by decide) (hts _ mwX1_kneelOn_1) (fun _ h9 => h9) rfl dX1_kneelOn_13 ?_
  refine lv_iload_n hx hb dX1_kneelOn_16 rfl (lv_at hl 1 rfl) ?_
  have hi_4 := vc.1
  replace vc := vc.2
  refine va_iald hx hb hK.1 hP 1 0 rfl rfl hi_4 dX1_kneelOn_17 ?_
  refine lv_if_gt (tgt := 26) hx hb dX1_kneelOn_18 (by decide) (fun c_ => ?_) (fun c_ => ?_)
  · replace vc := vc.1 c_
    exact W.vret hx hb hr (fun t ht hW => ⟨⟨(v_there, (upd v_wool (p0).toNatClampNeg x_2)), rfl, vc, QB_mk (hP.sub [0, 1] rfl) (hD.sub [0, 1] rfl rfl) ht⟩, hS.F ht⟩) hS.2.2 dX1_kneelOn_26
  · replace vc := vc.2 c_
    refine lv_aload_n hx hb dX1_kneelOn_21 rfl (lv_at hl 0 rfl) ?_
    refine lv_iload_n hx hb dX1_kneelOn_22 rfl (lv_at hl 1 rfl) ?_
    refine kj_v (wr := [(h_this_wool, .inl (cI, 10, .inl (upd v_wool (p0).toNatClampNeg x_2)))]) (rest := []) (kV ⟨hx, hb, hml, hown, hts⟩ (kX1_takeAway _ h_this h_this_wool h_this_stitches h_this_place p0 v_there v_hair v_year vc.1) (cwV 1 hts gX1_kneelOn_X1_takeAway rfl rfl rfl (by decide +kernel) ⟨(Nat.le_of_ble_eq_true rfl), (Nat.le_of_ble_eq_true rfl)⟩) hK hP hD [0] rfl rfl 0 1 rfl rfl rfl rfl rfl hl.1 (Nat.le_of_ble_eq_true rfl) dX1_kneelOn_23 ⟨(Nat.le_of_ble_eq_true rfl), (Nat.le_of_ble_eq_true rfl)⟩) hP hD hS hA [0] [1] rfl rfl rfl rfl (fun u_ H locs hq_ hP hD hS => ?_)
    obtain ⟨g_5, rfl⟩ : ∃ z, z = u_ := ⟨_, rfl⟩
    replace vc := vc.2  g_5 hq_
    refine W.widen (k := 0) (n := 0) (Nat.le_of_ble_eq_true rfl) (Nat.le_of_ble_eq_true rfl) ?_
    have hP : va_P D vwCl [(h_this_wool, .inl (cI, 10, .inl (upd v_wool (p0).toNatClampNeg x_2))), (h_this, .inr (1, [.int g_5, .int v_hair, .int v_year, .ref h_this_wool, .ref h_this_stitches, .ref h_this_place]))] H := hP
    have hD : va_D A [(h_this_wool, .inl (cI, 10, .inl (upd v_wool (p0).toNatClampNeg x_2))), (h_this, .inr (1, [.int g_5, .int v_hair, .int v_year, .ref h_this_wool, .ref h_this_stitches, .ref h_this_place]))] := hD
    exact W.vret hx hb hr (fun t ht hW => ⟨⟨(g_5, (upd v_wool (p0).toNatClampNeg x_2)), rfl, vc, QB_mk (hP.sub [1, 0] rfl) (hD.sub [1, 0] rfl rfl) ht⟩, hS.F ht⟩) hS.2.2 dX1_kneelOn_26
