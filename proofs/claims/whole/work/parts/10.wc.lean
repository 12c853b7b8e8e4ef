theorem mwX1_withoutHighest_1 : Cond.static yX8_isIn ∈ wsX1_withoutHighest := List.mem_of_getElem? (i := 1) rfl
theorem mwX1_withoutHighest_2 : Cond.initialized RX8 ∈ wsX1_withoutHighest := List.mem_of_getElem? (i := 2) rfl
def KX1_withoutHighest (l : Launch) (D : va_G) (cI cZ : ClassId) (P : Int32 → Prop) (Q : Int32 → Int32 → Prop) : Prop := ∀ (sz : Nat) (p0 : Int32), P p0 → MI l yX1_withoutHighest wsX1_withoutHighest ({ frames := 1, cells := 0, slots := 0, locals := 21 }) [.int p0] D cI cZ sz [] (fun r (u : Unit) => Q p0 r ) (fun u => []) 0 0
set_option maxHeartbeats 4000000 in
set_option maxRecDepth 100000 in
theorem walkX1_withoutHighest {l : Launch} {D : va_G} {cI cZ : ClassId} {PX1_withoutHighest : Int32 → Prop} {QX1_withoutHighest : Int32 → Int32 → Prop} {PX8_isIn : Int32 → Int32 → Prop} {QX8_isIn : Int32 → Int32 → Int32 → Prop} (kX8_isIn : KX8_isIn l D cI cZ PX8_isIn QX8_isIn) (IX1_withoutHighest_3 : Int32 → Nat → Int32 → Int32 → Prop) (hvc : ∀ (p0 : Int32), PX1_withoutHighest p0 → ((∃ n0 : Nat, IX1_withoutHighest_3 p0 n0 p0 (7 : Int32)) ∧ (∀ (n_1 : Nat) (i_2 : Int32), (IX1_withoutHighest_3 p0 n_1 p0 i_2 → ((i_2 < 0 → (QX1_withoutHighest p0 p0 )) ∧ (¬ i_2 < 0 → (PX8_isIn p0 i_2 ∧ (∀ r_3 : Int32, QX8_isIn p0 i_2 r_3 → ((r_3 = 0 → (∀ x_4 : Int32, x_4 = (i_2 + (-1 : Int32)) → (∃ n1 : Nat, n1 < n_1 ∧ IX1_withoutHighest_3 p0 n1 p0 x_4))) ∧ (¬ r_3 = 0 → (QX1_withoutHighest p0 (p0 ^^^ ((1 : Int32) <<< (i_2 &&& 31))) ))))))))))) : KX1_withoutHighest l D cI cZ PX1_withoutHighest QX1_withoutHighest := by
  intro sz  p0 hpre
  have vc := hvc p0 hpre
  clear hvc
  refine Met.ofW (cc := cX1_withoutHighest) (maxL := 2) (ret := (some .int)) (by decide) rfl ?_
  intro p e s m args below meth c s₁ B hml hv
  obtain ⟨rfl, hsz, hP, hK, hD0⟩ := hv
  have hx := B.exec
  have hb := B.bytes
  have hr := B.returns
  have hts := atoms_spec (ws := wsX1_withoutHighest) B.pre
  have hown : s.vm.findClass RX1 = some m.cls := findClass_of_methodNamed B.named
  have hlocks := B.notSynchronized
  subst hsz
  have hD := hD0.self (sz := s.heap.size)
  generalize hAe : va_A [] s.heap.size = A at hD ⊢
  have hA : ∀ q : Nat, s.heap.size ≤ q → A q := fun q h => by rw [← hAe]; exact Or.inr h
  have hS : va_S A s.heap s.heap [] := va_S.rf
  have hP : va_P D vwCl [] s.heap := hP
  have hl := lv_entry ([.int p0]) (n := 2) (Nat.le_of_ble_eq_true rfl)
  rw [lg_entry_eq]
  generalize (lg_sl ([.int p0]) ++ List.replicate (2 - (lg_sl ([.int p0])).length) Slot.unset).toArray = ls at hl ⊢
  have hl : lv_has ls 2 [(0, .int p0)] := hl
  refine lv_bipush (v := (7 : Int32)) hx hb dX1_withoutHighest_0 (by decide) ?_
  refine lv_istore_n (lv' := [(1, .int (7 : Int32)), (0, .int p0)]) hx hb dX1_withoutHighest_2 rfl hl (by decide) rfl (fun ls hl => ?_)
  obtain ⟨⟨n0_1, hi0_1⟩, vc⟩ := vc
  refine kloop (V := Int32) (I := fun n v => IX1_withoutHighest_3 p0 n p0 (v)) (wv := fun v => []) (lv := fun v => [(0, .int p0), (1, .int (v))]) n0_1 ((7 : Int32)) hi0_1 hP hD hS (lv_sub hl [1, 0] rfl) ?_
  intro n_1 v_1 hi_1 ih_1 H locs hP hD hS ls hl
  obtain ⟨i_2, rfl⟩ : ∃ z, z = v_1 := ⟨_, rfl⟩
  replace vc := vc n_1 i_2 hi_1
  have hP : va_P D vwCl [] H := hP
  have hD : va_D A [] := hD
  have hl : lv_has ls 2 [(0, .int p0), (1, .int i_2)] := hl
  refine lv_iload_n hx hb dX1_withoutHighest_3 rfl (lv_at hl 1 rfl) ?_
  refine lv_if_lt (tgt := 27) hx hb dX1_withoutHighest_4 (by decide) (fun c_ => ?_) (fun c_ => ?_)
  · replace vc := vc.1 c_
    refine lv_iload_n hx hb dX1_withoutHighest_27 rfl (lv_at hl 0 rfl) ?_
    exact W.iret (v := p0) hx hb hr (fun t ht hW => ⟨⟨p0, (), rfl, vc, QB_mk (hP.sub [] rfl) (hD.sub [] rfl rfl) ht⟩, hS.F ht⟩) hS.2.2 dX1_withoutHighest_28
  · replace vc := vc.2 c_
    refine lv_iload_n hx hb dX1_withoutHighest_7 rfl (lv_at hl 0 rfl) ?_
    refine lv_iload_n hx hb dX1_withoutHighest_8 rfl (lv_at hl 1 rfl) ?_
    refine kj0_i (rest := []) (kSN ⟨hx, hb, hml, hown, hts⟩ (kX8_isIn _ p0 i_2 vc.1) ⟨va_cnB 2 hts gX1_withoutHighest_X8_isIn_n35 rfl rfl rfl (KK_n8 hK) (hts _ mwX1_withoutHighest_2) (by decide +kernel) ⟨(Nat.le_of_ble_eq_true rfl), (Nat.le_of_ble_eq_true rfl)⟩, (hts _ mwX1_withoutHighest_1), trivial⟩ hK rfl rfl hl.1 (Nat.le_of_ble_eq_true rfl) dX1_withoutHighest_9 ⟨(Nat.le_of_ble_eq_true rfl), (Nat.le_of_ble_eq_true rfl)⟩) hP hS hA (fun r_3 H locs hq_ hP hS => ?_)
    replace vc := vc.2 r_3 hq_
    have hP : va_P D vwCl [] H := hP
    refine lv_if_eq (tgt := 21) hx hb dX1_withoutHighest_12 (by decide) (fun c_ => ?_) (fun c_ => ?_)
    · replace vc := vc.1 c_
      obtain ⟨x_4, ex_4⟩ : ∃ y_ : Int32, y_ = (i_2 + (-1 : Int32)) := ⟨_, rfl⟩
      replace vc := vc x_4 ex_4
      refine lv_iinc (v := x_4) (lv' := [(1, .int x_4), (0, .int p0)]) hx hb dX1_withoutHighest_21 hl (k := 1) rfl (by rw [ex_4]; rfl) (by decide) rfl (fun ls hl => ?_)
      refine lv_goto (tgt := 3) hx hb dX1_withoutHighest_24 (by decide) ?_
      obtain ⟨n1_, hlt_, hi_⟩ := vc
      exact ih_1 n1_ (x_4) hlt_ hi_ _ _ hP hD hS ls (lv_sub hl [1, 0] rfl)
    · replace vc := vc.2 c_
      refine lv_iload_n hx hb dX1_withoutHighest_15 rfl (lv_at hl 0 rfl) ?_
      refine lv_iconst (v := (1 : Int32)) hx hb dX1_withoutHighest_16 (by decide) ?_
      refine lv_iload_n hx hb dX1_withoutHighest_17 rfl (lv_at hl 1 rfl) ?_
      refine lv_ishl hx hb dX1_withoutHighest_18 ?_
      refine lv_ixor hx hb dX1_withoutHighest_19 ?_
      exact W.iret (v := (p0 ^^^ ((1 : Int32) <<< (i_2 &&& 31)))) hx hb hr (fun t ht hW => ⟨⟨(p0 ^^^ ((1 : Int32) <<< (i_2 &&& 31))), (), rfl, vc, QB_mk (hP.sub [] rfl) (hD.sub [] rfl rfl) ht⟩, hS.F ht⟩) hS.2.2 dX1_withoutHighest_20

theorem mwX1_passYear_1 : Cond.fieldLink RX1 18 "HassockSee$Diocese" "year" "I" ∈ wsX1_passYear := List.mem_of_getElem? (i := 1) rfl
theorem mwX1_passYear_2 : Cond.fieldLink RX1 9 "HassockSee$Diocese" "there" "I" ∈ wsX1_passYear := List.mem_of_getElem? (i := 2) rfl
theorem mwX1_passYear_3 : Cond.fieldLink RX1 21 "HassockSee$Diocese" "wool" "[I" ∈ wsX1_passYear := List.mem_of_getElem? (i := 3) rfl
theorem mwX1_passYear_4 : Cond.fieldLink RX1 25 "HassockSee$Diocese" "stitches" "[I" ∈ wsX1_passYear := List.mem_of_getElem? (i := 4) rfl
theorem mwX1_passYear_5 : Cond.fieldLink RX1 15 "HassockSee$Diocese" "hair" "I" ∈ wsX1_passYear := List.mem_of_getElem? (i := 5) rfl
theorem mwX1_passYear_6 : Cond.methodLink RX1 67 Lib.Math.min.name ∈ wsX1_passYear := List.mem_of_getElem? (i := 6) rfl
theorem mwX1_passYear_7 : Cond.static Lib.Math.min.name ∈ wsX1_passYear := List.mem_of_getElem? (i := 7) rfl
theorem mwX1_passYear_8 : Cond.initialized "java/lang/Math" ∈ wsX1_passYear := List.mem_of_getElem? (i := 8) rfl
theorem mwX1_passYear_9 : Cond.code Lib.Math.min.name Lib.Math.min.code 2 (some .int) ∈ wsX1_passYear := List.mem_of_getElem? (i := 9) rfl
theorem mwX1_passYear_10 : Cond.static yX8_isIn ∈ wsX1_passYear := List.mem_of_getElem? (i := 10) rfl
theorem mwX1_passYear_11 : Cond.initialized RX8 ∈ wsX1_passYear := List.mem_of_getElem? (i := 11) rfl
theorem mcX1_passYear_X1 : ∀ w ∈ u_ws RX1 TX1 6, w ∈ wsX1_passYear := fun _ h => (List.mem_cons_of_mem _ (List.mem_append_right _ h))
def KX1_passYear (l : Launch) (D : va_G) (cI cZ : ClassId) (P : Int32 → Int32 → Int32 → (Nat → Int32) → (Nat → Int32) → Prop) (Q : Int32 → Int32 → Int32 → (Nat → Int32) → (Nat → Int32) → Int32 → Int32 → (Nat → Int32) → (Nat → Int32) → Prop) : Prop := ∀ (sz : Nat) (h_this h_this_wool h_this_stitches h_this_place : Nat) (v_there : Int32) (v_hair : Int32) (v_year : Int32) (v_stitches : (Nat → Int32)) (v_wool : (Nat → Int32)), P v_there v_hair v_year v_stitches v_wool → MV l yX1_passYear wsX1_passYear ({ frames := 2, cells := 0, slots := 0, locals := 42 }) [.ref h_this] D cI cZ sz [(h_this, .inr (1, [.int v_there, .int v_hair, .int v_year, .ref h_this_wool, .ref h_this_stitches, .ref h_this_place])), (h_this_stitches, .inl (cI, 10, .inl v_stitches)), (h_this_wool, .inl (cI, 10, .inl v_wool))] (fun (u : Int32 × Int32 × (Nat → Int32) × (Nat → Int32)) => Q v_there v_hair v_year v_stitches v_wool (u.1) (u.2.1) (u.2.2.1) (u.2.2.2)) (fun u => [(h_this, .inr (1, [.int v_there, .int (u.1), .int (u.2.1), .ref h_this_wool, .ref h_this_stitches, .ref h_this_place])), (h_this_stitches, .inl (cI, 10, .inl (u.2.2.1))), (h_this_wool, .inl (cI, 10, .inl (u.2.2.2)))]) 0 0
set_option maxHeartbeats 4000000 in
set_option maxRecDepth 100000 in
theorem walkX1_passYear {l : Launch} {D : va_G} {cI cZ : ClassId} {PX1_passYear : Int32 → Int32 → Int32 → (Nat → Int32) → (Nat → Int32) → Prop} {QX1_passYear : Int32 → Int32 → Int32 → (Nat → Int32) → (Nat → Int32) → Int32 → Int32 → (Nat → Int32) → (Nat → Int32) → Prop} {PX8_isIn : Int32 → Int32 → Prop} {QX8_isIn : Int32 → Int32 → Int32 → Prop} {PX1_withoutHighest : Int32 → Prop} {QX1_withoutHighest : Int32 → Int32 → Prop} (kX8_isIn : KX8_isIn l D cI cZ PX8_isIn QX8_isIn) (kX1_withoutHighest : KX1_withoutHighest l D cI cZ PX1_withoutHighest QX1_withoutHighest) (IX1_passYear_12 : Int32 → Int32 → Int32 → (Nat → Int32) → (Nat → Int32) → Nat → Int32 → Int32 → Int32 → (Nat → Int32) → (Nat → Int32) → Prop) (hvc : ∀ (v_there : Int32) (v_hair : Int32) (v_year : Int32) (v_stitches : (Nat → Int32)) (v_wool : (Nat → Int32)), PX1_passYear v_there v_hair v_year v_stitches v_wool → (∀ x_1 : Int32, x_1 = (v_year + (1 : Int32)) → ((∃ n0 : Nat, IX1_passYear_12 v_there v_hair v_year v_stitches v_wool n0 (0 : Int32) v_hair x_1 v_stitches v_wool) ∧ (∀ (n_2 : Nat) (i_3 : Int32) (g_4 : Int32) (f_5 : (Nat → Int32)) (f_6 : (Nat → Int32)), (IX1_passYear_12 v_there v_hair v_year v_stitches v_wool n_2 i_3 g_4 x_1 f_6 f_5 → (((10 : Int32) ≤ i_3 → (QX1_passYear v_there v_hair v_year v_stitches v_wool g_4 x_1 f_6 f_5)) ∧ (¬ (10 : Int32) ≤ i_3 → (PX8_isIn v_there i_3 ∧ (∀ r_7 : Int32, QX8_isIn v_there i_3 r_7 → ((r_7 = 0 → (PX8_isIn v_there i_3 ∧ (∀ r_8 : Int32, QX8_isIn v_there i_3 r_8 → ((r_8 = 0 → (∀ x_9 : Int32, x_9 = (i_3 + (1 : Int32)) → (∃ n1 : Nat, n1 < n_2 ∧ IX1_passYear_12 v_there v_hair v_year v_stitches v_wool n1 x_9 g_4 x_1 f_6 f_5))) ∧ (¬ r_8 = 0 → (vp_in i_3 10 ∧ (((f_5 (i_3).toNatClampNeg) < (50 : Int32) → (∀ x_11 : Int32, x_11 = (i_3 + (1 : Int32)) → (∃ n1 : Nat, n1 < n_2 ∧ IX1_passYear_12 v_there v_hair v_year v_stitches v_wool n1 x_11 g_4 x_1 f_6 f_5))) ∧ (¬ (f_5 (i_3).toNatClampNeg) < (50 : Int32) → (vp_in i_3 10 ∧ (∀ x_13 : Int32, x_13 = ((f_5 (i_3).toNatClampNeg) - (1 : Int32)) → (vp_in i_3 10 ∧ (∀ x_15 : Int32, x_15 = (if (g_4 + (1 : Int32)) < (999 : Int32) then (g_4 + (1 : Int32)) else (999 : Int32)) → (∀ x_16 : Int32, x_16 = (i_3 + (1 : Int32)) → (∃ n1 : Nat, n1 < n_2 ∧ IX1_passYear_12 v_there v_hair v_year v_stitches v_wool n1 x_16 x_15 x_1 f_6 (upd f_5 (i_3).toNatClampNeg x_13))))))))))))))) ∧ (¬ r_7 = 0 → (vp_in i_3 10 ∧ (((20 : Int32) ≤ (f_5 (i_3).toNatClampNeg) → (PX8_isIn v_there i_3 ∧ (∀ r_18 : Int32, QX8_isIn v_there i_3 r_18 → ((r_18 = 0 → (∀ x_19 : Int32, x_19 = (i_3 + (1 : Int32)) → (∃ n1 : Nat, n1 < n_2 ∧ IX1_passYear_12 v_there v_hair v_year v_stitches v_wool n1 x_19 g_4 x_1 f_6 f_5))) ∧ (¬ r_18 = 0 → (vp_in i_3 10 ∧ (((f_5 (i_3).toNatClampNeg) < (50 : Int32) → (∀ x_21 : Int32, x_21 = (i_3 + (1 : Int32)) → (∃ n1 : Nat, n1 < n_2 ∧ IX1_passYear_12 v_there v_hair v_year v_stitches v_wool n1 x_21 g_4 x_1 f_6 f_5))) ∧ (¬ (f_5 (i_3).toNatClampNeg) < (50 : Int32) → (vp_in i_3 10 ∧ (∀ x_23 : Int32, x_23 = ((f_5 (i_3).toNatClampNeg) - (1 : Int32)) → (vp_in i_3 10 ∧ (∀ x_25 : Int32, x_25 = (if (g_4 + (1 : Int32)) < (999 : Int32) then (g_4 + (1 : Int32)) else (999 : Int32)) → (∀ x_26 : Int32, x_26 = (i_3 + (1 : Int32)) → (∃ n1 : Nat, n1 < n_2 ∧ IX1_passYear_12 v_there v_hair v_year v_stitches v_wool n1 x_26 x_25 x_1 f_6 (upd f_5 (i_3).toNatClampNeg x_23))))))))))))))) ∧ (¬ (20 : Int32) ≤ (f_5 (i_3).toNatClampNeg) → (vp_in i_3 10 ∧ (PX1_withoutHighest (f_6 (i_3).toNatClampNeg) ∧ (∀ r_28 : Int32, QX1_withoutHighest (f_6 (i_3).toNatClampNeg) r_28 → (vp_in i_3 10 ∧ (∀ x_30 : Int32, x_30 = (i_3 + (1 : Int32)) → (∃ n1 : Nat, n1 < n_2 ∧ IX1_passYear_12 v_there v_hair v_year v_stitches v_wool n1 x_30 g_4 x_1 (upd f_6 (i_3).toNatClampNeg r_28) f_5)))))))))))))))))))) : KX1_passYear l D cI cZ PX1_passYear QX1_passYear := by
  intro sz h_this h_this_wool h_this_stitches h_this_place v_there v_hair v_year v_stitches v_wool hpre
  have vc := hvc v_there v_hair v_year v_stitches v_wool hpre
  clear hvc
  refine Met.ofW (cc := cX1_passYear) (maxL := 2) (ret := none) (by decide) rfl ?_
  intro p e s m args below meth c s₁ B hml hv
  obtain ⟨rfl, hsz, hP, hK, hD0⟩ := hv
  have hx := B.exec
  have hb := B.bytes
  have hr := B.returns
  have hts := atoms_spec (ws := wsX1_passYear) B.pre
  have hown : s.vm.findClass RX1 = some m.cls := findClass_of_methodNamed B.named
  have hlocks := B.notSynchronized
  subst hsz
  have hD := hD0.self (sz := s.heap.size)
  generalize hAe : va_A [(h_this, .inr (1, [.int v_there, .int v_hair, .int v_year, .ref h_this_wool, .ref h_this_stitches, .ref h_this_place])), (h_this_stitches, .inl (cI, 10, .inl v_stitches)), (h_this_wool, .inl (cI, 10, .inl v_wool))] s.heap.size = A at hD ⊢
  have hA : ∀ q : Nat, s.heap.size ≤ q → A q := fun q h => by rw [← hAe]; exact Or.inr h
  have hS : va_S A s.heap s.heap [] := va_S.rf
  have hP : va_P D vwCl [(h_this, .inr (1, [.int v_there, .int v_hair, .int v_year, .ref h_this_wool, .ref h_this_stitches, .ref h_this_place])), (h_this_stitches, .inl (cI, 10, .inl v_stitches)), (h_this_wool, .inl (cI, 10, .inl v_wool))] s.heap := hP
  have hl := lv_entry ([.ref h_this]) (n := 2) (Nat.le_of_ble_eq_true rfl)
  rw [lg_entry_eq]
  generalize (lg_sl ([.ref h_this]) ++ List.replicate (2 - (lg_sl ([.ref h_this])).length) Slot.unset).toArray = ls at hl ⊢
  have hl : lv_has ls 2 [(0, .ref h_this)] := hl
  refine lv_aload_n hx hb dX1_passYear_0 rfl (lv_at hl 0 rfl) ?_
  refine lv_dup hx hb dX1_passYear_1 rfl ?_
  refine va_get (D := D) (ci := 1) (v := .int v_year) (C := RX1) (T := TX1) (N := 6) hx hb hts mcX1_passYear_X1 hown hK.1 hP 0 rfl rfl 2 (by decide) (hts _ mwX1_passYear_1) (fun _ h9 => h9) rfl dX1_passYear_2 ?_
  refine lv_iconst (v := (1 : Int32)) hx hb dX1_passYear_5 (by decide) ?_
  refine lv_iadd hx hb dX1_passYear_6 ?_
  refine lv_topi (fun x_1 ex_1 => ?_)
  replace vc := vc x_1 ex_1
  refine va_put (D := D) (ci := 1) (v := .int x_1) (ty := .int) (C := RX1) (T := TX1) (N := 6) hx hb hts mcX1_passYear_X1 tyX1 tyX1_ok nmX1 hown hK.1 hP hD hS 0 rfl rfl 2 (by decide) (hts _ mwX1_passYear_1) (fun _ h9 => h9) rfl (by decide +kernel) rfl rfl (Nat.le_of_ble_eq_true rfl) dX1_passYear_7 (fun H locs hP hD hS => ?_)
  have hP : va_P D vwCl [(h_this, .inr (1, [.int v_there, .int v_hair, .int x_1, .ref h_this_wool, .ref h_this_stitches, .ref h_this_place])), (h_this_stitches, .inl (cI, 10, .inl v_stitches)), (h_this_wool, .inl (cI, 10, .inl v_wool))] H := hP
  have hD : va_D A [(h_this, .inr (1, [.int v_there, .int v_hair, .int x_1, .ref h_this_wool, .ref h_this_stitches, .ref h_this_place])), (h_this_stitches, .inl (cI, 10, .inl v_stitches)), (h_this_wool, .inl (cI, 10, .inl v_wool))] := hD
  refine lv_iconst (v := (0 : Int32)) hx hb dX1_passYear_10 (by decide) ?_
  refine lv_istore_n (lv' := [(1, .int (0 : Int32)), (0, .ref h_this)]) hx hb dX1_passYear_11 rfl hl (by decide) rfl (fun ls hl => ?_)
  obtain ⟨⟨n0_2, hi0_2⟩, vc⟩ := vc
  refine kloop (V := Int32 × Int32 × (Nat → Int32) × (Nat → Int32)) (I := fun n v => IX1_passYear_12 v_there v_hair v_year v_stitches v_wool n (v.1) (v.2.1) x_1 (v.2.2.2) (v.2.2.1)) (wv := fun v => [(h_this, .inr (1, [.int v_there, .int (v.2.1), .int x_1, .ref h_this_wool, .ref h_this_stitches, .ref h_this_place])), (h_this_stitches, .inl (cI, 10, .inl (v.2.2.2))), (h_this_wool, .inl (cI, 10, .inl (v.2.2.1)))]) (lv := fun v => [(0, .ref h_this), (1, .int (v.1))]) n0_2 ((0 : Int32), v_hair, v_wool, v_stitches) hi0_2 hP hD hS (lv_sub hl [1, 0] rfl) ?_
  intro n_2 v_2 hi_2 ih_2 H locs hP hD hS ls hl
  obtain ⟨i_3, g_4, f_5, f_6⟩ := v_2
  replace vc := vc n_2 i_3 g_4 f_5 f_6 hi_2
  have hP : va_P D vwCl [(h_this, .inr (1, [.int v_there, .int g_4, .int x_1, .ref h_this_wool, .ref h_this_stitches, .ref h_this_place])), (h_this_stitches, .inl (cI, 10, .inl f_6)), (h_this_wool, .inl (cI, 10, .inl f_5))] H := hP
  have hD : va_D A [(h_this, .inr (1, [.int v_there, .int g_4, .int x_1, .ref h_this_wool, .ref h_this_stitches, .ref h_this_place])), (h_this_stitches, .inl (cI, 10, .inl f_6)), (h_this_wool, .inl (cI, 10, .inl f_5))] := hD
  have hl : lv_has ls 2 [(0, .ref h_this), (1, .int i_3)] := hl
  refine lv_iload_n hx hb dX1_passYear_12 rfl (lv_at hl 1 rfl) ?_
  refine lv_bipush (v := (10 : Int32)) hx hb dX1_passYear_13 (by decide) ?_
  refine lv_icmp_ge (tgt := 112) hx hb dX1_passYear_15 (by decide) (fun c_ => ?_) (fun c_ => ?_)
  · replace vc := vc.1 c_
    exact W.vret hx hb hr (fun t ht hW => ⟨⟨(g_4, x_1, f_6, f_5), rfl, vc, QB_mk (hP.sub [0, 1, 2] rfl) (hD.sub [0, 1, 2] rfl rfl) ht⟩, hS.F ht⟩) hS.2.2 dX1_passYear_112
  · replace vc := vc.2 c_
    refine lv_aload_n hx hb dX1_passYear_18 rfl (lv_at hl 0 rfl) ?_
    refine va_get (D := D) (ci := 1) (v := .int v_there) (C := RX1) (T := TX1) (N := 6) hx hb hts mcX1_passYear_X1 hown hK.1 hP 0 rfl rfl 0 (by decide) (hts _ mwX1_passYear_2) (fun _ h9 => h9) rfl dX1_passYear_19 ?_
    refine lv_iload_n hx hb dX1_passYear_22 rfl (lv_at hl 1 rfl) ?_
    refine kj0_i (rest := []) (kSN ⟨hx, hb, hml, hown, hts⟩ (kX8_isIn _ v_there i_3 vc.1) ⟨va_cnB 2 hts gX1_passYear_X8_isIn_n35 rfl rfl rfl (KK_n8 hK) (hts _ mwX1_passYear_11) (by decide +kernel) ⟨(Nat.le_of_ble_eq_true rfl), (Nat.le_of_ble_eq_true rfl)⟩, (hts _ mwX1_passYear_10), trivial⟩ hK rfl rfl hl.1 (Nat.le_of_ble_eq_true rfl) dX1_passYear_23 ⟨(Nat.le_of_ble_eq_true rfl), (Nat.le_of_ble_eq_true rfl)⟩) hP hS hA (fun r_7 H locs hq_ hP hS => ?_)
    replace vc := vc.2 r_7 hq_
    have hP : va_P D vwCl [(h_this, .inr (1, [.int v_there, .int g_4, .int x_1, .ref h_this_wool, .ref h_this_stitches, .ref h_this_place])), (h_this_stitches, .inl (cI, 10, .inl f_6)), (h_this_wool, .inl (cI, 10, .inl f_5))] H := hP
    refine lv_if_eq (tgt := 58) hx hb dX1_passYear_26 (by decide) (fun c_ => ?_) (fun c_ => ?_)
    · replace vc := vc.1 c_
      refine lv_aload_n hx hb dX1_passYear_58 rfl (lv_at hl 0 rfl) ?_
      refine va_get (D := D) (ci := 1) (v := .int v_there) (C := RX1) (T := TX1) (N := 6) hx hb hts mcX1_passYear_X1 hown hK.1 hP 0 rfl rfl 0 (by decide) (hts _ mwX1_passYear_2) (fun _ h9 => h9) rfl dX1_passYear_59 ?_
      refine lv_iload_n hx hb dX1_passYear_62 rfl (lv_at hl 1 rfl) ?_
      refine kj0_i (rest := []) (kSN ⟨hx, hb, hml, hown, hts⟩ (kX8_isIn _ v_there i_3 vc.1) ⟨va_cnB 2 hts gX1_passYear_X8_isIn_n35 rfl rfl rfl (KK_n8 hK) (hts _ mwX1_passYear_11) (by decide +kernel) ⟨(Nat.le_of_ble_eq_true rfl), (Nat.le_of_ble_eq_true rfl)⟩, (hts _ mwX1_passYear_10), trivial⟩ hK rfl rfl hl.1 (Nat.le_of_ble_eq_true rfl) dX1_passYear_63 ⟨(Nat.le_of_ble_eq_true rfl), (Nat.le_of_ble_eq_true rfl)⟩) hP hS hA (fun r_8 H locs hq_ hP hS => ?_)
      replace vc := vc.2 r_8 hq_
      have hP : va_P D vwCl [(h_this, .inr (1, [.int v_there, .int g_4, .int x_1, .ref h_this_wool, .ref h_this_stitches, .ref h_this_place])), (h_this_stitches, .inl (cI, 10, .inl f_6)), (h_this_wool, .inl (cI, 10, .inl f_5))] H := hP
      refine lv_if_eq (tgt := 106) hx hb dX1_passYear_66 (by decide) (fun c_ => ?_) (fun c_ => ?_)
      · replace vc := vc.1 c_
        obtain ⟨x_9, ex_9⟩ : ∃ y_ : Int32, y_ = (i_3 + (1 : Int32)) := ⟨_, rfl⟩
        replace vc := vc x_9 ex_9
        refine lv_iinc (v := x_9) (lv' := [(1, .int x_9), (0, .ref h_this)]) hx hb dX1_passYear_106 hl (k := 1) rfl (by rw [ex_9]; rfl) (by decide) rfl (fun ls hl => ?_)
        refine lv_goto (tgt := 12) hx hb dX1_passYear_109 (by decide) ?_
        obtain ⟨n1_, hlt_, hi_⟩ := vc
        exact ih_2 n1_ (x_9, g_4, f_5, f_6) hlt_ hi_ _ _ hP hD hS ls (lv_sub hl [1, 0] rfl)
      · replace vc := vc.2 c_
        refine lv_aload_n hx hb dX1_passYear_69 rfl (lv_at hl 0 rfl) ?_
        refine va_get (D := D) (ci := 1) (v := .ref h_this_wool) (C := RX1) (T := TX1) (N := 6) hx hb hts mcX1_passYear_X1 hown hK.1 hP 0 rfl rfl 3 (by decide) (hts _ mwX1_passYear_3) (fun _ h9 => h9) rfl dX1_passYear_70 ?_
        refine lv_iload_n hx hb dX1_passYear_73 rfl (lv_at hl 1 rfl) ?_
        have hi_10 := vc.1
        replace vc := vc.2
        refine va_iald hx hb hK.1 hP 2 0 rfl rfl hi_10 dX1_passYear_74 ?_
        refine lv_bipush (v := (50 : Int32)) hx hb dX1_passYear_75 (by decide) ?_
        refine lv_icmp_lt (tgt := 106) hx hb dX1_passYear_77 (by decide) (fun c_ => ?_) (fun c_ => ?_)
        · replace vc := vc.1 c_
          obtain ⟨x_11, ex_11⟩ : ∃ y_ : Int32, y_ = (i_3 + (1 : Int32)) := ⟨_, rfl⟩
          replace vc := vc x_11 ex_11
          refine lv_iinc (v := x_11) (lv' := [(1, .int x_11), (0, .ref h_this)]) hx hb dX1_passYear_106 hl (k := 1) rfl (by rw [ex_11]; rfl) (by decide) rfl (fun ls hl => ?_)
          refine lv_goto (tgt := 12) hx hb dX1_passYear_109 (by decide) ?_
          obtain ⟨n1_, hlt_, hi_⟩ := vc
          exact ih_2 n1_ (x_11, g_4, f_5, f_6) hlt_ hi_ _ _ hP hD hS ls (lv_sub hl [1, 0] rfl)
        · replace vc := vc.2 c_
          refine lv_aload_n hx hb dX1_passYear_80 rfl (lv_at hl 0 rfl) ?_
          refine va_get (D := D) (ci := 1) (v := .ref h_this_wool) (C := RX1) (T := TX1) (N := 6) hx hb hts mcX1_passYear_X1 hown hK.1 hP 0 rfl rfl 3 (by decide) (hts _ mwX1_passYear_3) (fun _ h9 => h9) rfl dX1_passYear_81 ?_
          refine lv_iload_n hx hb dX1_passYear_84 rfl (lv_at hl 1 rfl) ?_
          refine lv_dup2_11 hx hb dX1_passYear_85 rfl rfl ?_
          have hi_12 := vc.1
          replace vc := vc.2
          refine va_iald hx hb hK.1 hP 2 0 rfl rfl hi_12 dX1_passYear_86 ?_
          refine lv_iconst (v := (1 : Int32)) hx hb dX1_passYear_87 (by decide) ?_
          refine lv_isub hx hb dX1_passYear_88 ?_
          refine lv_topi (fun x_13 ex_13 => ?_)
          replace vc := vc x_13 ex_13
          have hi_14 := vc.1
          replace vc := vc.2
          refine va_iast hx hb hK.1 hP hD hS 2 0 rfl rfl hi_14 dX1_passYear_89 (fun H locs hP hD hS => ?_)
          have hP : va_P D vwCl [(h_this, .inr (1, [.int v_there, .int g_4, .int x_1, .ref h_this_wool, .ref h_this_stitches, .ref h_this_place])), (h_this_stitches, .inl (cI, 10, .inl f_6)), (h_this_wool, .inl (cI, 10, .inl (upd f_5 (i_3).toNatClampNeg x_13)))] H := hP
          have hD : va_D A [(h_this, .inr (1, [.int v_there, .int g_4, .int x_1, .ref h_this_wool, .ref h_this_stitches, .ref h_this_place])), (h_this_stitches, .inl (cI, 10, .inl f_6)), (h_this_wool, .inl (cI, 10, .inl (upd f_5 (i_3).toNatClampNeg x_13)))] := hD
          refine lv_aload_n hx hb dX1_passYear_90 rfl (lv_at hl 0 rfl) ?_
          refine lv_sipush (v := (999 : Int32)) hx hb dX1_passYear_91 (by decide) ?_
          refine lv_aload_n hx hb dX1_passYear_94 rfl (lv_at hl 0 rfl) ?_
          refine va_get (D := D) (ci := 1) (v := .int g_4) (C := RX1) (T := TX1) (N := 6) hx hb hts mcX1_passYear_X1 hown hK.1 hP 0 rfl rfl 1 (by decide) (hts _ mwX1_passYear_5) (fun _ h9 => h9) rfl dX1_passYear_95 ?_
          refine lv_iconst (v := (1 : Int32)) hx hb dX1_passYear_98 (by decide) ?_
          refine lv_iadd hx hb dX1_passYear_99 ?_
          refine va_mmin hx hb (by rw [hml]; exact hl.1.symm) hown (hts _ mwX1_passYear_6) (hts _ mwX1_passYear_7) (hts _ mwX1_passYear_8) (hts _ mwX1_passYear_9) (Nat.le_of_ble_eq_true rfl) (Nat.le_of_ble_eq_true rfl) (Nat.le_of_ble_eq_true rfl) (Nat.le_of_ble_eq_true rfl) dX1_passYear_100 ?_
          refine lv_topi (fun x_15 ex_15 => ?_)
          replace vc := vc x_15 ex_15
          refine va_put (D := D) (ci := 1) (v := .int x_15) (ty := .int) (C := RX1) (T := TX1) (N := 6) hx hb hts mcX1_passYear_X1 tyX1 tyX1_ok nmX1 hown hK.1 hP hD hS 0 rfl rfl 1 (by decide) (hts _ mwX1_passYear_5) (fun _ h9 => h9) rfl (by decide +kernel) rfl rfl (Nat.le_of_ble_eq_true rfl) dX1_passYear_103 (fun H locs hP hD hS => ?_)
          have hP : va_P D vwCl [(h_this, .inr (1, [.int v_there, .int x_15, .int x_1, .ref h_this_wool, .ref h_this_stitches, .ref h_this_place])), (h_this_stitches, .inl (cI, 10, .inl f_6)), (h_this_wool, .inl (cI, 10, .inl (upd f_5 (i_3).toNatClampNeg x_13)))] H := hP
          have hD : va_D A [(h_this, .inr (1, [.int v_there, .int x_15, .int x_1, .ref h_this_wool, .ref h_this_stitches, .ref h_this_place])), (h_this_stitches, .inl (cI, 10, .inl f_6)), (h_this_wool, .inl (cI, 10, .inl (upd f_5 (i_3).toNatClampNeg x_13)))] := hD
          obtain ⟨x_16, ex_16⟩ : ∃ y_ : Int32, y_ = (i_3 + (1 : Int32)) := ⟨_, rfl⟩
          replace vc := vc x_16 ex_16
          refine lv_iinc (v := x_16) (lv' := [(1, .int x_16), (0, .ref h_this)]) hx hb dX1_passYear_106 hl (k := 1) rfl (by rw [ex_16]; rfl) (by decide) rfl (fun ls hl => ?_)
          refine lv_goto (tgt := 12) hx hb dX1_passYear_109 (by decide) ?_
          obtain ⟨n1_, hlt_, hi_⟩ := vc
          exact ih_2 n1_ (x_16, x_15, (upd f_5 (i_3).toNatClampNeg x_13), f_6) hlt_ hi_ _ _ hP hD hS ls (lv_sub hl [1, 0] rfl)
    · replace vc := vc.2 c_
      refine lv_aload_n hx hb dX1_passYear_29 rfl (lv_at hl 0 rfl) ?_
      refine va_get (D := D) (ci := 1) (v := .ref h_this_wool) (C := RX1) (T := TX1) (N := 6) hx hb hts mcX1_passYear_X1 hown hK.1 hP 0 rfl rfl 3 (by decide) (hts _ mwX1_passYear_3) (fun _ h9 => h9) rfl dX1_passYear_30 ?_
      refine lv_iload_n hx hb dX1_passYear_33 rfl (lv_at hl 1 rfl) ?_
      have hi_17 := vc.1
      replace vc := vc.2
      refine va_iald hx hb hK.1 hP 2 0 rfl rfl hi_17 dX1_passYear_34 ?_
      refine lv_bipush (v := (20 : Int32)) hx hb dX1_passYear_35 (by decide) ?_
      refine lv_icmp_ge (tgt := 58) hx hb dX1_passYear_37 (by decide) (fun c_ => ?_) (fun c_ => ?_)
      · replace vc := vc.1 c_
        refine lv_aload_n hx hb dX1_passYear_58 rfl (lv_at hl 0 rfl) ?_
        refine va_get (D := D) (ci := 1) (v := .int v_there) (C := RX1) (T := TX1) (N := 6) hx hb hts mcX1_passYear_X1 hown hK.1 hP 0 rfl rfl 0 (by decide) (hts _ mwX1_passYear_2) (fun _ h9 => h9) rfl dX1_passYear_59 ?_
        refine lv_iload_n hx hb dX1_passYear_62 rfl (lv_at hl 1 rfl) ?_
        refine kj0_i (rest := []) (kSN ⟨hx, hb, hml, hown, hts⟩ (kX8_isIn _ v_there i_3 vc.1) ⟨va_cnB 2 hts gX1_passYear_X8_isIn_n35 rfl rfl rfl (KK_n8 hK) (hts _ mwX1_passYear_11) (by decide +kernel) ⟨(Nat.le_of_ble_eq_true rfl), (Nat.le_of_ble_eq_true rfl)⟩, (hts _ mwX1_passYear_10), trivial⟩ hK rfl rfl hl.1 (Nat.le_of_ble_eq_true rfl) dX1_passYear_63 ⟨(Nat.le_of_ble_eq_true rfl), (Nat.le_of_ble_eq_true rfl)⟩) hP hS hA (fun r_18 H locs hq_ hP hS => ?_)
        replace vc := vc.2 r_18 hq_
        have hP : va_P D vwCl [(h_this, .inr (1, [.int v_there, .int g_4, .int x_1, .ref h_this_wool, .ref h_this_stitches, .ref h_this_place])), (h_this_stitches, .inl (cI, 10, .inl f_6)), (h_this_wool, .inl (cI, 10, .inl f_5))] H := hP
        refine lv_if_eq (tgt := 106) hx hb dX1_passYear_66 (by decide) (fun c_ => ?_) (fun c_ => ?_)
        · replace vc := vc.1 c_
          obtain ⟨x_19, ex_19⟩ : ∃ y_ : Int32, y_ = (i_3 + (1 : Int32)) := ⟨_, rfl⟩
          replace vc := vc x_19 ex_19
          refine lv_iinc (v := x_19) (lv' := [(1, .int x_19), (0, .ref h_this)]) hx hb dX1_passYear_106 hl (k := 1) rfl (by rw [ex_19]; rfl) (by decide) rfl (fun ls hl => ?_)
          refine lv_goto (tgt := 12) hx hb dX1_passYear_109 (by decide) ?_
          obtain ⟨n1_, hlt_, hi_⟩ := vc
          exact ih_2 n1_ (x_19, g_4, f_5, f_6) hlt_ hi_ _ _ hP hD hS ls (lv_sub hl [1, 0] rfl)
        · replace vc := vc.2 c_
          refine lv_aload_n hx hb dX1_passYear_69 rfl (lv_at hl 0 rfl) ?_
          refine va_get (D := D) (ci := 1) (v := .ref h_this_wool) (C := RX1) (T := TX1) (N := 6) hx hb hts mcX1_passYear_X1 hown hK.1 hP 0 rfl rfl 3 (by decide) (hts _ mwX1_passYear_3) (fun _ h9 => h9) rfl dX1_passYear_70 ?_
          refine lv_iload_n hx hb dX1_passYear_73 rfl (lv_at hl 1 rfl) ?_
          have hi_20 := vc.1
          replace vc := vc.2
          refine va_iald hx hb hK.1 hP 2 0 rfl rfl hi_20 dX1_passYear_74 ?_
          refine lv_bipush (v := (50 : Int32)) hx hb dX1_passYear_75 (by decide) ?_
          refine lv_icmp_lt (tgt := 106) hx hb dX1_passYear_77 (by decide) (fun c_ => ?_) (fun c_ => ?_)
          · replace vc := vc.1 c_
            obtain ⟨x_21, ex_21⟩ : ∃ y_ : Int32, y_ = (i_3 + (1 : Int32)) := ⟨_, rfl⟩
            replace vc := vc x_21 ex_21
            refine lv_iinc (v := x_21) (lv' := [(1, .int x_21), (0, .ref h_this)]) hx hb dX1_passYear_106 hl (k := 1) rfl (by rw [ex_21]; rfl) (by decide) rfl (fun ls hl => ?_)
            refine lv_goto (tgt := 12) hx hb dX1_passYear_109 (by decide) ?_
            obtain ⟨n1_, hlt_, hi_⟩ := vc
            exact ih_2 n1_ (x_21, g_4, f_5, f_6) hlt_ hi_ _ _ hP hD hS ls (lv_sub hl [1, 0] rfl)
          · replace vc := vc.2 c_
            refine lv_aload_n hx hb dX1_passYear_80 rfl (lv_at hl 0 rfl) ?_
            refine va_get (D := D) (ci := 1) (v := .ref h_this_wool) (C := RX1) (T := TX1) (N := 6) hx hb hts mcX1_passYear_X1 hown hK.1 hP 0 rfl rfl 3 (by decide) (hts _ mwX1_passYear_3) (fun _ h9 => h9) rfl dX1_passYear_81 ?_
            refine lv_iload_n hx hb dX1_passYear_84 rfl (lv_at hl 1 rfl) ?_
            refine lv_dup2_11 hx hb dX1_passYear_85 rfl rfl ?_
            have hi_22 := vc.1
            replace vc := vc.2
            refine va_iald hx hb hK.1 hP 2 0 rfl rfl hi_22 dX1_passYear_86 ?_
            refine lv_iconst (v := (1 : Int32)) hx hb dX1_passYear_87 (by decide) ?_
            refine lv_isub hx hb dX1_passYear_88 ?_
            refine lv_topi (fun x_23 ex_23 => ?_)
            replace vc := vc x_23 ex_23
            have hi_24 := vc.1
            replace vc := vc.2
            refine va_iast hx hb hK.1 hP hD hS 2 0 rfl rfl hi_24 dX1_passYear_89 (fun H locs hP hD hS => ?_)
            have hP : va_P D vwCl [(h_this, .inr (1, [.int v_there, .int g_4, .int x_1, .ref h_this_wool, .ref h_this_stitches, .ref h_this_place])), (h_this_stitches, .inl (cI, 10, .inl f_6)), (h_this_wool, .inl (cI, 10, .inl (upd f_5 (i_3).toNatClampNeg x_23)))] H := hP
            have hD : va_D A [(h_this, .inr (1, [.int v_there, .int g_4, .int x_1, .ref h_this_wool, .ref h_this_stitches, .ref h_this_place])), (h_this_stitches, .inl (cI, 10, .inl f_6)), (h_this_wool, .inl (cI, 10, .inl (upd f_5 (i_3).toNatClampNeg x_23)))] := hD
            refine lv_aload_n hx hb dX1_passYear_90 rfl (lv_at hl 0 rfl) ?_
            refine lv_sipush (v := (999 : Int32)) hx hb dX1_passYear_91 (by decide) ?_
            refine lv_aload_n hx hb dX1_passYear_94 rfl (lv_at hl 0 rfl) ?_
            refine va_get (D := D) (ci := 1) (v := .int g_4) (C := RX1) (T := TX1) (N := 6) hx hb hts mcX1_passYear_X1 hown hK.1 hP 0 rfl rfl 1 (by decide) (hts _ mwX1_passYear_5) (fun _ h9 => h9) rfl dX1_passYear_95 ?_
            refine lv_iconst (v := (1 : Int32)) hx hb dX1_passYear_98 (by decide) ?_
            refine lv_iadd hx hb dX1_passYear_99 ?_
            refine va_mmin hx hb (by rw [hml]; exact hl.1.symm) hown (hts _ mwX1_passYear_6) (hts _ mwX1_passYear_7) (hts _ mwX1_passYear_8) (hts _ mwX1_passYear_9) (Nat.le_of_ble_eq_true rfl) (Nat.le_of_ble_eq_true rfl) (Nat.le_of_ble_eq_true rfl) (Nat.le_of_ble_eq_true rfl) dX1_passYear_100 ?_
            refine lv_topi (fun x_25 ex_25 => ?_)
            replace vc := vc x_25 ex_25
            refine va_put (D := D) (ci := 1) (v := .int x_25) (ty := .int) (C := RX1) (T := TX1) (N := 6) hx hb hts mcX1_passYear_X1 tyX1 tyX1_ok nmX1 hown hK.1 hP hD hS 0 rfl rfl 1 (by decide) (hts _ mwX1_passYear_5) (fun _ h9 => h9) rfl (by decide +kernel) rfl rfl (Nat.le_of_ble_eq_true rfl) dX1_passYear_103 (fun H locs hP hD hS => ?_)
            have hP : va_P D vwCl [(h_this, .inr (1, [.int v_there, .int x_25, .int x_1, .ref h_this_wool, .ref h_this_stitches, .ref h_this_place])), (h_this_stitches, .inl (cI, 10, .inl f_6)), (h_this_wool, .inl (cI, 10, .inl (upd f_5 (i_3).toNatClampNeg x_23)))] H := hP
            have hD : va_D A [(h_this, .inr (1, [.int v_there, .int x_25, .int x_1, .ref h_this_wool, .ref h_this_stitches, .ref h_this_place])), (h_this_stitches, .inl (cI, 10, .inl f_6)), (h_this_wool, .inl (cI, 10, .inl (upd f_5 (i_3).toNatClampNeg x_23)))] := hD
            obtain ⟨x_26, ex_26⟩ : ∃ y_ : Int32, y_ = (i_3 + (1 : Int32)) := ⟨_, rfl⟩
            replace vc := vc x_26 ex_26
            refine lv_iinc (v := x_26) (lv' := [(1, .int x_26), (0, .ref h_this)]) hx hb dX1_passYear_106 hl (k := 1) rfl (by rw [ex_26]; rfl) (by decide) rfl (fun ls hl => ?_)
            refine lv_goto (tgt := 12) hx hb dX1_passYear_109 (by decide) ?_
            obtain ⟨n1_, hlt_, hi_⟩ := vc
            exact ih_2 n1_ (x_26, x_25, (upd f_5 (i_3).toNatClampNeg x_23), f_6) hlt_ hi_ _ _ hP hD hS ls (lv_sub hl [1, 0] rfl)
      · replace vc := vc.2 c_
        refine lv_aload_n hx hb dX1_passYear_40 rfl (lv_at hl 0 rfl) ?_
        refine va_get (D := D) (ci := 1) (v := .ref h_this_stitches) (C := RX1) (T := TX1) (N := 6) hx hb hts mcX1_passYear_X1 hown hK.1 hP 0 rfl rfl 4 (by decide) (hts _ mwX1_passYear_4) (fun _ h9 => h9) rfl dX1_passYear_41 ?_
        refine lv_iload_n hx hb dX1_passYear_44 rfl (lv_at hl 1 rfl) ?_
        refine lv_aload_n hx hb dX1_passYear_45 rfl (lv_at hl 0 rfl) ?_
        refine va_get (D := D) (ci := 1) (v := .ref h_this_stitches) (C := RX1) (T := TX1) (N := 6) hx hb hts mcX1_passYear_X1 hown hK.1 hP 0 rfl rfl 4 (by decide) (hts _ mwX1_passYear_4) (fun _ h9 => h9) rfl dX1_passYear_46 ?_
        refine lv_iload_n hx hb dX1_passYear_49 rfl (lv_at hl 1 rfl) ?_
        have hi_27 := vc.1
        replace vc := vc.2
        refine va_iald hx hb hK.1 hP 1 0 rfl rfl hi_27 dX1_passYear_50 ?_
        refine kj0_i (rest := [.int i_3, .ref h_this_stitches]) (kS ⟨hx, hb, hml, hown, hts⟩ (kX1_withoutHighest _ (f_6 (i_3).toNatClampNeg) vc.1) (va_cwS 1 hts gX1_passYear_X1_withoutHighest rfl rfl rfl (by decide +kernel) ⟨(Nat.le_of_ble_eq_true rfl), (Nat.le_of_ble_eq_true rfl)⟩) hK rfl rfl hl.1 (Nat.le_of_ble_eq_true rfl) dX1_passYear_51 ⟨(Nat.le_of_ble_eq_true rfl), (Nat.le_of_ble_eq_true rfl)⟩) hP hS hA (fun r_28 H locs hq_ hP hS => ?_)
        replace vc := vc.2 r_28 hq_
        have hP : va_P D vwCl [(h_this, .inr (1, [.int v_there, .int g_4, .int x_1, .ref h_this_wool, .ref h_this_stitches, .ref h_this_place])), (h_this_stitches, .inl (cI, 10, .inl f_6)), (h_this_wool, .inl (cI, 10, .inl f_5))] H := hP
        have hi_29 := vc.1
        replace vc := vc.2
        refine va_iast hx hb hK.1 hP hD hS 1 0 rfl rfl hi_29 dX1_passYear_54 (fun H locs hP hD hS => ?_)
        have hP : va_P D vwCl [(h_this, .inr (1, [.int v_there, .int g_4, .int x_1, .ref h_this_wool, .ref h_this_stitches, .ref h_this_place])), (h_this_stitches, .inl (cI, 10, .inl (upd f_6 (i_3).toNatClampNeg r_28))), (h_this_wool, .inl (cI, 10, .inl f_5))] H := hP
        have hD : va_D A [(h_this, .inr (1, [.int v_there, .int g_4, .int x_1, .ref h_this_wool, .ref h_this_stitches, .ref h_this_place])), (h_this_stitches, .inl (cI, 10, .inl (upd f_6 (i_3).toNatClampNeg r_28))), (h_this_wool, .inl (cI, 10, .inl f_5))] := hD
        refine lv_goto (tgt := 106) hx hb dX1_passYear_55 (by decide) ?_
        obtain ⟨x_30, ex_30⟩ : ∃ y_ : Int32, y_ = (i_3 + (1 : Int32)) := ⟨_, rfl⟩
        replace vc := vc x_30 ex_30
        refine lv_iinc (v := x_30) (lv' := [(1, .int x_30), (0, .ref h_this)]) hx hb dX1_passYear_106 hl (k := 1) rfl (by rw [ex_30]; rfl) (by decide) rfl (fun ls hl => ?_)
        refine lv_goto (tgt := 12) hx hb dX1_passYear_109 (by decide) ?_
        obtain ⟨n1_, hlt_, hi_⟩ := vc
        exact ih_2 n1_ (x_30, g_4, f_5, (upd f_6 (i_3).toNatClampNeg r_28)) hlt_ hi_ _ _ hP hD hS ls (lv_sub hl [1, 0] rfl)

theorem mwX1_perform_1 : Cond.fieldLink RX1 21 "HassockSee$Diocese" "wool" "[I" ∈ wsX1_perform := List.mem_of_getElem? (i := 1) rfl
theorem mwX1_perform_2 : Cond.methodLink RX1 67 Lib.Math.min.name ∈ wsX1_perform := List.mem_of_getElem? (i := 2) rfl
theorem mwX1_perform_3 : Cond.static Lib.Math.min.name ∈ wsX1_perform := List.mem_of_getElem? (i := 3) rfl
theorem mwX1_perform_4 : Cond.initialized "java/lang/Math" ∈ wsX1_perform := List.mem_of_getElem? (i := 4) rfl
theorem mwX1_perform_5 : Cond.code Lib.Math.min.name Lib.Math.min.code 2 (some .int) ∈ wsX1_perform := List.mem_of_getElem? (i := 5) rfl
theorem mwX1_perform_6 : Cond.fieldLink RX1 15 "HassockSee$Diocese" "hair" "I" ∈ wsX1_perform := List.mem_of_getElem? (i := 6) rfl
theorem mwX1_perform_7 : Cond.fieldLink RX1 25 "HassockSee$Diocese" "stitches" "[I" ∈ wsX1_perform := List.mem_of_getElem? (i := 7) rfl
theorem mcX1_perform_X1 : ∀ w ∈ u_ws RX1 TX1 6, w ∈ wsX1_perform := fun _ h => (List.mem_cons_of_mem _ (List.mem_append_right _ h))
def KX1_perform (l : Launch) (D : va_G) (cI cZ : ClassId) (P : Int32 → Int32 → Int32 → Int32 → Int32 → Int32 → (Nat → Int32) → (Nat → Int32) → (Nat → Int32) → Prop) (Q : Int32 → Int32 → Int32 → Int32 → Int32 → Int32 → (Nat → Int32) → (Nat → Int32) → (Nat → Int32) → Int32 → Int32 → Int32 → (Nat → Int32) → (Nat → Int32) → (Nat → Int32) → Prop) : Prop := ∀ (sz : Nat) (h_this h_this_wool h_this_stitches h_this_place : Nat) (p0 : Int32) (p1 : Int32) (p2 : Int32) (v_there : Int32) (v_hair : Int32) (v_year : Int32) (v_place : (Nat → Int32)) (v_stitches : (Nat → Int32)) (v_wool : (Nat → Int32)), P p0 p1 p2 v_there v_hair v_year v_place v_stitches v_wool → MV l yX1_perform wsX1_perform ({ frames := 3, cells := 0, slots := 0, locals := 63 }) [.ref h_this, .int p0, .int p1, .int p2] D cI cZ sz [(h_this, .inr (1, [.int v_there, .int v_hair, .int v_year, .ref h_this_wool, .ref h_this_stitches, .ref h_this_place])), (h_this_place, .inl (cI, 10, .inl v_place)), (h_this_stitches, .inl (cI, 10, .inl v_stitches)), (h_this_wool, .inl (cI, 10, .inl v_wool))] (fun (u : Int32 × Int32 × Int32 × (Nat → Int32) × (Nat → Int32) × (Nat → Int32)) => Q p0 p1 p2 v_there v_hair v_year v_place v_stitches v_wool (u.1) (u.2.1) (u.2.2.1) (u.2.2.2.1) (u.2.2.2.2.1) (u.2.2.2.2.2)) (fun u => [(h_this, .inr (1, [.int (u.1), .int (u.2.1), .int (u.2.2.1), .ref h_this_wool, .ref h_this_stitches, .ref h_this_place])), (h_this_place, .inl (cI, 10, .inl (u.2.2.2.1))), (h_this_stitches, .inl (cI, 10, .inl (u.2.2.2.2.1))), (h_this_wool, .inl (cI, 10, .inl (u.2.2.2.2.2)))]) 0 0
set_option maxHeartbeats 4000000 in
set_option maxRecDepth 100000 in
theorem walkX1_perform {l : Launch} {D : va_G} {cI cZ : ClassId} {PX1_perform : Int32 → Int32 → Int32 → Int32 → Int32 → Int32 → (Nat → Int32) → (Nat → Int32) → (Nat → Int32) → Prop} {QX1_perform : Int32 → Int32 → Int32 → Int32 → Int32 → Int32 → (Nat → Int32) → (Nat → Int32) → (Nat → Int32) → Int32 → Int32 → Int32 → (Nat → Int32) → (Nat → Int32) → (Nat → Int32) → Prop} {PX1_kneelOn : Int32 → Int32 → Int32 → (Nat → Int32) → Prop} {QX1_kneelOn : Int32 → Int32 → Int32 → (Nat → Int32) → Int32 → (Nat → Int32) → Prop} {PX1_takeAway : Int32 → Int32 → Prop} {QX1_takeAway : Int32 → Int32 → Int32 → Prop} {PX1_changePlaces : Int32 → Int32 → (Nat → Int32) → Prop} {QX1_changePlaces : Int32 → Int32 → (Nat → Int32) → (Nat → Int32) → Prop} {PX1_passYear : Int32 → Int32 → Int32 → (Nat → Int32) → (Nat → Int32) → Prop} {QX1_passYear : Int32 → Int32 → Int32 → (Nat → Int32) → (Nat → Int32) → Int32 → Int32 → (Nat → Int32) → (Nat → Int32) → Prop} (kX1_kneelOn : KX1_kneelOn l D cI cZ PX1_kneelOn QX1_kneelOn) (kX1_takeAway : KX1_takeAway l D cI cZ PX1_takeAway QX1_takeAway) (kX1_changePlaces : KX1_changePlaces l D cI cZ PX1_changePlaces QX1_changePlaces) (kX1_passYear : KX1_passYear l D cI cZ PX1_passYear QX1_passYear) (hvc : ∀ (p0 : Int32) (p1 : Int32) (p2 : Int32) (v_there : Int32) (v_hair : Int32) (v_year : Int32) (v_place : (Nat → Int32)) (v_stitches : (Nat → Int32)) (v_wool : (Nat → Int32)), PX1_perform p0 p1 p2 v_there v_hair v_year v_place v_stitches v_wool → ((p0 = (0 : Int32) → (PX1_kneelOn p1 p2 v_there v_wool ∧ (∀ (g_1 : Int32) (f_2 : (Nat → Int32)), QX1_kneelOn p1 p2 v_there v_wool g_1 f_2 → (QX1_perform p0 p1 p2 v_there v_hair v_year v_place v_stitches v_wool g_1 v_hair v_year v_place v_stitches f_2)))) ∧ (¬ p0 = (0 : Int32) → ((p0 = (1 : Int32) → (vp_in p1 10 ∧ (∀ x_4 : Int32, x_4 = (if ((v_wool (p1).toNatClampNeg) + (20 : Int32)) < (99 : Int32) then ((v_wool (p1).toNatClampNeg) + (20 : Int32)) else (99 : Int32)) → (vp_in p1 10 ∧ (∀ x_6 : Int32, x_6 = (v_hair - (5 : Int32)) → (QX1_perform p0 p1 p2 v_there v_hair v_year v_place v_stitches v_wool v_there x_6 v_year v_place v_stitches (upd v_wool (p1).toNatClampNeg x_4))))))) ∧ (¬ p0 = (1 : Int32) → ((p0 = (2 : Int32) → (vp_in p1 10 ∧ (∀ x_8 : Int32, x_8 = ((v_stitches (p1).toNatClampNeg) ^^^ ((1 : Int32) <<< (p2 &&& 31))) → (vp_in p1 10 ∧ (QX1_perform p0 p1 p2 v_there v_hair v_year v_place v_stitches v_wool v_there v_hair v_year v_place (upd v_stitches (p1).toNatClampNeg x_8) v_wool))))) ∧ (¬ p0 = (2 : Int32) → ((p0 = (3 : Int32) → (vp_in p1 10 ∧ (vp_in p2 10 ∧ (∀ x_12 : Int32, x_12 = (if ((v_wool (p1).toNatClampNeg) + (v_wool (p2).toNatClampNeg)) < (99 : Int32) then ((v_wool (p1).toNatClampNeg) + (v_wool (p2).toNatClampNeg)) else (99 : Int32)) → (vp_in p1 10 ∧ (vp_in p1 10 ∧ (vp_in p2 10 ∧ (∀ x_16 : Int32, x_16 = ((v_stitches (p1).toNatClampNeg) ||| (v_stitches (p2).toNatClampNeg)) → (vp_in p1 10 ∧ (PX1_takeAway p2 v_there ∧ (∀ (g_18 : Int32), QX1_takeAway p2 v_there g_18 → (QX1_perform p0 p1 p2 v_there v_hair v_year v_place v_stitches v_wool g_18 v_hair v_year v_place (upd v_stitches (p1).toNatClampNeg x_16) (upd v_wool (p1).toNatClampNeg x_12))))))))))))) ∧ (¬ p0 = (3 : Int32) → ((p0 = (4 : Int32) → (PX1_changePlaces p1 p2 v_place ∧ (∀ (f_19 : (Nat → Int32)), QX1_changePlaces p1 p2 v_place f_19 → (QX1_perform p0 p1 p2 v_there v_hair v_year v_place v_stitches v_wool v_there v_hair v_year f_19 v_stitches v_wool)))) ∧ (¬ p0 = (4 : Int32) → ((p0 = (5 : Int32) → (PX1_takeAway p1 v_there ∧ (∀ (g_20 : Int32), QX1_takeAway p1 v_there g_20 → (∀ x_21 : Int32, x_21 = (if (v_hair + (10 : Int32)) < (999 : Int32) then (v_hair + (10 : Int32)) else (999 : Int32)) → (QX1_perform p0 p1 p2 v_there v_hair v_year v_place v_stitches v_wool g_20 x_21 v_year v_place v_stitches v_wool))))) ∧ (¬ p0 = (5 : Int32) → (PX1_passYear v_there v_hair v_year v_stitches v_wool ∧ (∀ (g_22 : Int32) (g_23 : Int32) (f_24 : (Nat → Int32)) (f_25 : (Nat → Int32)), QX1_passYear v_there v_hair v_year v_stitches v_wool g_22 g_23 f_24 f_25 → (QX1_perform p0 p1 p2 v_there v_hair v_year v_place v_stitches v_wool v_there g_22 g_23 v_place f_24 f_25)))))))))))))))) : KX1_perform l D cI cZ PX1_perform QX1_perform := by
  intro sz h_this h_this_wool h_this_stitches h_this_place p0 p1 p2 v_there v_hair v_year v_place v_stitches v_wool hpre
  have vc := hvc p0 p1 p2 v_there v_hair v_year v_place v_stitches v_wool hpre
  clear hvc
  refine Met.ofW (cc := cX1_perform) (maxL := 4) (ret := none) (by decide) rfl ?_
  intro p e s m args below meth c s₁ B hml hv
  obtain ⟨rfl, hsz, hP, hK, hD0⟩ := hv
  have hx := B.exec
  have hb := B.bytes
  have hr := B.returns
  have hts := atoms_spec (ws := wsX1_perform) B.pre
  have hown : s.vm.findClass RX1 = some m.cls := findClass_of_methodNamed B.named
  have hlocks := B.notSynchronized
  subst hsz
  have hD := hD0.self (sz := s.heap.size)
  generalize hAe : va_A [(h_this, .inr (1, [.int v_there, .int v_hair, .int v_year, .ref h_this_wool, .ref h_this_stitches, .ref h_this_place])), (h_this_place, .inl (cI, 10, .inl v_place)), (h_this_stitches, .inl (cI, 10, .inl v_stitches)), (h_this_wool, .inl (cI, 10, .inl v_wool))] s.heap.size = A at hD ⊢
  have hA : ∀ q : Nat, s.heap.size ≤ q → A q := fun q h => by rw [← hAe]; exact Or.inr h
  have hS : va_S A s.heap s.heap [] := va_S.rf
  have hP : va_P D vwCl [(h_this, .inr (1, [.int v_there, .int v_hair, .int v_year, .ref h_this_wool, .ref h_this_stitches, .ref h_this_place])), (h_this_place, .inl (cI, 10, .inl v_place)), (h_this_stitches, .inl (cI, 10, .inl v_stitches)), (h_this_wool, .inl (cI, 10, .inl v_wool))] s.heap := hP
  have hl := lv_entry ([.ref h_this, .int p0, .int p1, .int p2]) (n := 4) (Nat.le_of_ble_eq_true rfl)
  rw [lg_entry_eq]
  generalize (lg_sl ([.ref h_this, .int p0, .int p1, .int p2]) ++ List.replicate (4 - (lg_sl ([.ref h_this, .int p0, .int p1, .int p2])).length) Slot.unset).toArray = ls at hl ⊢
  have hl : lv_has ls 4 [(0, .ref h_this), (1, .int p0), (2, .int p1), (3, .int p2)] := hl
  refine lv_iload_n hx hb dX1_perform_0 rfl (lv_at hl 1 rfl) ?_
  by_cases c1_0 : p0 = (0 : Int32)
  · replace vc := vc.1 c1_0
    refine lv_tableIn (off := 39) (tgt := 40) hx hb dX1_perform_1 (by rw [c1_0]; decide) (by rw [c1_0]; decide) (by rw [c1_0]; rfl) (by decide) ?_
    refine lv_aload_n hx hb dX1_perform_40 rfl (lv_at hl 0 rfl) ?_
    refine lv_iload_n hx hb dX1_perform_41 rfl (lv_at hl 2 rfl) ?_
    refine lv_iload_n hx hb dX1_perform_42 rfl (lv_at hl 3 rfl) ?_
    refine kj_v (wr := [(h_this_place, .inl (cI, 10, .inl v_place)), (h_this_stitches, .inl (cI, 10, .inl v_stitches))]) (rest := []) (kV ⟨hx, hb, hml, hown, hts⟩ (kX1_kneelOn _ h_this h_this_wool h_this_stitches h_this_place p1 p2 v_there v_hair v_year v_wool vc.1) (cwV 2 hts gX1_perform_X1_kneelOn rfl rfl rfl (by decide +kernel) ⟨(Nat.le_of_ble_eq_true rfl), (Nat.le_of_ble_eq_true rfl)⟩) hK hP hD [0, 3] rfl rfl 0 1 rfl rfl rfl rfl rfl hl.1 (Nat.le_of_ble_eq_true rfl) dX1_perform_43 ⟨(Nat.le_of_ble_eq_true rfl), (Nat.le_of_ble_eq_true rfl)⟩) hP hD hS hA [0, 3] [1, 2] rfl rfl rfl rfl (fun u_ H locs hq_ hP hD hS => ?_)
    obtain ⟨g_1, f_2⟩ := u_
    replace vc := vc.2  g_1 f_2 hq_
    refine W.widen (k := 0) (n := 0) (Nat.le_of_ble_eq_true rfl) (Nat.le_of_ble_eq_true rfl) ?_
    have hP : va_P D vwCl [(h_this_place, .inl (cI, 10, .inl v_place)), (h_this_stitches, .inl (cI, 10, .inl v_stitches)), (h_this, .inr (1, [.int g_1, .int v_hair, .int v_year, .ref h_this_wool, .ref h_this_stitches, .ref h_this_place])), (h_this_wool, .inl (cI, 10, .inl f_2))] H := hP
    have hD : va_D A [(h_this_place, .inl (cI, 10, .inl v_place)), (h_this_stitches, .inl (cI, 10, .inl v_stitches)), (h_this, .inr (1, [.int g_1, .int v_hair, .int v_year, .ref h_this_wool, .ref h_this_stitches, .ref h_this_place])), (h_this_wool, .inl (cI, 10, .inl f_2))] := hD
    refine lv_goto (tgt := 182) hx hb dX1_perform_46 (by decide) ?_
    exact W.vret hx hb hr (fun t ht hW => ⟨⟨(g_1, v_hair, v_year, v_place, v_stitches, f_2), rfl, vc, QB_mk (hP.sub [2, 0, 1, 3] rfl) (hD.sub [2, 0, 1, 3] rfl rfl) ht⟩, hS.F ht⟩) hS.2.2 dX1_perform_182
  · replace vc := vc.2 c1_0
    by_cases c1_1 : p0 = (1 : Int32)
    · replace vc := vc.1 c1_1
      refine lv_tableIn (off := 48) (tgt := 49) hx hb dX1_perform_1 (by rw [c1_1]; decide) (by rw [c1_1]; decide) (by rw [c1_1]; rfl) (by decide) ?_
      refine lv_aload_n hx hb dX1_perform_49 rfl (lv_at hl 0 rfl) ?_
      refine va_get (D := D) (ci := 1) (v := .ref h_this_wool) (C := RX1) (T := TX1) (N := 6) hx hb hts mcX1_perform_X1 hown hK.1 hP 0 rfl rfl 3 (by decide) (hts _ mwX1_perform_1) (fun _ h9 => h9) rfl dX1_perform_50 ?_
      refine lv_iload_n hx hb dX1_perform_53 rfl (lv_at hl 2 rfl) ?_
      refine lv_bipush (v := (99 : Int32)) hx hb dX1_perform_54 (by decide) ?_
      refine lv_aload_n hx hb dX1_perform_56 rfl (lv_at hl 0 rfl) ?_
      refine va_get (D := D) (ci := 1) (v := .ref h_this_wool) (C := RX1) (T := TX1) (N := 6) hx hb hts mcX1_perform_X1 hown hK.1 hP 0 rfl rfl 3 (by decide) (hts _ mwX1_perform_1) (fun _ h9 => h9) rfl dX1_perform_57 ?_
      refine lv_iload_n hx hb dX1_perform_60 rfl (lv_at hl 2 rfl) ?_
      have hi_3 := vc.1
      replace vc := vc.2
      refine va_iald hx hb hK.1 hP 3 0 rfl rfl hi_3 dX1_perform_61 ?_
      refine lv_bipush (v := (20 : Int32)) hx hb dX1_perform_62 (by decide) ?_
      refine lv_iadd hx hb dX1_perform_64 ?_
      refine va_mmin hx hb (by rw [hml]; exact hl.1.symm) hown (hts _ mwX1_perform_2) (hts _ mwX1_perform_3) (hts _ mwX1_perform_4) (hts _ mwX1_perform_5) (Nat.le_of_ble_eq_true rfl) (Nat.le_of_ble_eq_true rfl) (Nat.le_of_ble_eq_true rfl) (Nat.le_of_ble_eq_true rfl) dX1_perform_65 ?_
      refine lv_topi (fun x_4 ex_4 => ?_)
      replace vc := vc x_4 ex_4
      have hi_5 := vc.1
      replace vc := vc.2
      refine va_iast hx hb hK.1 hP hD hS 3 0 rfl rfl hi_5 dX1_perform_68 (fun H locs hP hD hS => ?_)
      have hP : va_P D vwCl [(h_this, .inr (1, [.int v_there, .int v_hair, .int v_year, .ref h_this_wool, .ref h_this_stitches, .ref h_this_place])), (h_this_place, .inl (cI, 10, .inl v_place)), (h_this_stitches, .inl (cI, 10, .inl v_stitches)), (h_this_wool, .inl (cI, 10, .inl (upd v_wool (p1).toNatClampNeg x_4)))] H := hP
      have hD : va_D A [(h_this, .inr (1, [.int v_there, .int v_hair, .int v_year, .ref h_this_wool, .ref h_this_stitches, .ref h_this_place])), (h_this_place, .inl (cI, 10, .inl v_place)), (h_this_stitches, .inl (cI, 10, .inl v_stitches)), (h_this_wool, .inl (cI, 10, .inl (upd v_wool (p1).toNatClampNeg x_4)))] := hD
      refine lv_aload_n hx hb dX1_perform_69 rfl (lv_at hl 0 rfl) ?_
      refine lv_dup hx hb dX1_perform_70 rfl ?_
      refine va_get (D := D) (ci := 1) (v := .int v_hair) (C := RX1) (T := TX1) (N := 6) hx hb hts mcX1_perform_X1 hown hK.1 hP 0 rfl rfl 1 (by decide) (hts _ mwX1_perform_6) (fun _ h9 => h9) rfl dX1_perform_71 ?_
      refine lv_iconst (v := (5 : Int32)) hx hb dX1_perform_74 (by decide) ?_
      refine lv_isub hx hb dX1_perform_75 ?_
      refine lv_topi (fun x_6 ex_6 => ?_)
      replace vc := vc x_6 ex_6
      refine va_put (D := D) (ci := 1) (v := .int x_6) (ty := .int) (C := RX1) (T := TX1) (N := 6) hx hb hts mcX1_perform_X1 tyX1 tyX1_ok nmX1 hown hK.1 hP hD hS 0 rfl rfl 1 (by decide) (hts _ mwX1_perform_6) (fun _ h9 => h9) rfl (by decide +kernel) rfl rfl (Nat.le_of_ble_eq_true rfl) dX1_perform_76 (fun H locs hP hD hS => ?_)
      have hP : va_P D vwCl [(h_this, .inr (1, [.int v_there, .int x_6, .int v_year, .ref h_this_wool, .ref h_this_stitches, .ref h_this_place])), (h_this_place, .inl (cI, 10, .inl v_place)), (h_this_stitches, .inl (cI, 10, .inl v_stitches)), (h_this_wool, .inl (cI, 10, .inl (upd v_wool (p1).toNatClampNeg x_4)))] H := hP
      have hD : va_D A [(h_this, .inr (1, [.int v_there, .int x_6, .int v_year, .ref h_this_wool, .ref h_this_stitches, .ref h_this_place])), (h_this_place, .inl (cI, 10, .inl v_place)), (h_this_stitches, .inl (cI, 10, .inl v_stitches)), (h_this_wool, .inl (cI, 10, .inl (upd v_wool (p1).toNatClampNeg x_4)))] := hD
      refine lv_goto (tgt := 182) hx hb dX1_perform_79 (by decide) ?_
      exact W.vret hx hb hr (fun t ht hW => ⟨⟨(v_there, x_6, v_year, v_place, v_stitches, (upd v_wool (p1).toNatClampNeg x_4)), rfl, vc, QB_mk (hP.sub [0, 1, 2, 3] rfl) (hD.sub [0, 1, 2, 3] rfl rfl) ht⟩, hS.F ht⟩) hS.2.2 dX1_perform_182
    · replace vc := vc.2 c1_1
      by_cases c1_2 : p0 = (2 : Int32)
      · replace vc := vc.1 c1_2
        refine lv_tableIn (off := 81) (tgt := 82) hx hb dX1_perform_1 (by rw [c1_2]; decide) (by rw [c1_2]; decide) (by rw [c1_2]; rfl) (by decide) ?_
        refine lv_aload_n hx hb dX1_perform_82 rfl (lv_at hl 0 rfl) ?_
        refine va_get (D := D) (ci := 1) (v := .ref h_this_stitches) (C := RX1) (T := TX1) (N := 6) hx hb hts mcX1_perform_X1 hown hK.1 hP 0 rfl rfl 4 (by decide) (hts _ mwX1_perform_7) (fun _ h9 => h9) rfl dX1_perform_83 ?_
        refine lv_iload_n hx hb dX1_perform_86 rfl (lv_at hl 2 rfl) ?_
        refine lv_dup2_11 hx hb dX1_perform_87 rfl rfl ?_
        have hi_7 := vc.1
        replace vc := vc.2
        refine va_iald hx hb hK.1 hP 2 0 rfl rfl hi_7 dX1_perform_88 ?_
        refine lv_iconst (v := (1 : Int32)) hx hb dX1_perform_89 (by decide) ?_
        refine lv_iload_n hx hb dX1_perform_90 rfl (lv_at hl 3 rfl) ?_
        refine lv_ishl hx hb dX1_perform_91 ?_
        refine lv_ixor hx hb dX1_perform_92 ?_
        refine lv_topi (fun x_8 ex_8 => ?_)
        replace vc := vc x_8 ex_8
        have hi_9 := vc.1
        replace vc := vc.2
        refine va_iast hx hb hK.1 hP hD hS 2 0 rfl rfl hi_9 dX1_perform_93 (fun H locs hP hD hS => ?_)
        have hP : va_P D vwCl [(h_this, .inr (1, [.int v_there, .int v_hair, .int v_year, .ref h_this_wool, .ref h_this_stitches, .ref h_this_place])), (h_this_place, .inl (cI, 10, .inl v_place)), (h_this_stitches, .inl (cI, 10, .inl (upd v_stitches (p1).toNatClampNeg x_8))), (h_this_wool, .inl (cI, 10, .inl v_wool))] H := hP
        have hD : va_D A [(h_this, .inr (1, [.int v_there, .int v_hair, .int v_year, .ref h_this_wool, .ref h_this_stitches, .ref h_this_place])), (h_this_place, .inl (cI, 10, .inl v_place)), (h_this_stitches, .inl (cI, 10, .inl (upd v_stitches (p1).toNatClampNeg x_8))), (h_this_wool, .inl (cI, 10, .inl v_wool))] := hD
        refine lv_goto (tgt := 182) hx hb dX1_perform_94 (by decide) ?_
        exact W.vret hx hb hr (fun t ht hW => ⟨⟨(v_there, v_hair, v_year, v_place, (upd v_stitches (p1).toNatClampNeg x_8), v_wool), rfl, vc, QB_mk (hP.sub [0, 1, 2, 3] rfl) (hD.sub [0, 1, 2, 3] rfl rfl) ht⟩, hS.F ht⟩) hS.2.2 dX1_perform_182
      · replace vc := vc.2 c1_2
        by_cases c1_3 : p0 = (3 : Int32)
        · replace vc := vc.1 c1_3
          refine lv_tableIn (off := 96) (tgt := 97) hx hb dX1_perform_1 (by rw [c1_3]; decide) (by rw [c1_3]; decide) (by rw [c1_3]; rfl) (by decide) ?_
          refine lv_aload_n hx hb dX1_perform_97 rfl (lv_at hl 0 rfl) ?_
          refine va_get (D := D) (ci := 1) (v := .ref h_this_wool) (C := RX1) (T := TX1) (N := 6) hx hb hts mcX1_perform_X1 hown hK.1 hP 0 rfl rfl 3 (by decide) (hts _ mwX1_perform_1) (fun _ h9 => h9) rfl dX1_perform_98 ?_
          refine lv_iload_n hx hb dX1_perform_101 rfl (lv_at hl 2 rfl) ?_
          refine lv_bipush (v := (99 : Int32)) hx hb dX1_perform_102 (by decide) ?_
          refine lv_aload_n hx hb dX1_perform_104 rfl (lv_at hl 0 rfl) ?_
          refine va_get (D := D) (ci := 1) (v := .ref h_this_wool) (C := RX1) (T := TX1) (N := 6) hx hb hts mcX1_perform_X1 hown hK.1 hP 0 rfl rfl 3 (by decide) (hts _ mwX1_perform_1) (fun _ h9 => h9) rfl dX1_perform_105 ?_
          refine lv_iload_n hx hb dX1_perform_108 rfl (lv_at hl 2 rfl) ?_
          have hi_10 := vc.1
          replace vc := vc.2
          refine va_iald hx hb hK.1 hP 3 0 rfl rfl hi_10 dX1_perform_109 ?_
          refine lv_aload_n hx hb dX1_perform_110 rfl (lv_at hl 0 rfl) ?_
          refine va_get (D := D) (ci := 1) (v := .ref h_this_wool) (C := RX1) (T := TX1) (N := 6) hx hb hts mcX1_perform_X1 hown hK.1 hP 0 rfl rfl 3 (by decide) (hts _ mwX1_perform_1) (fun _ h9 => h9) rfl dX1_perform_111 ?_
          refine lv_iload_n hx hb dX1_perform_114 rfl (lv_at hl 3 rfl) ?_
          have hi_11 := vc.1
          replace vc := vc.2
          refine va_iald hx hb hK.1 hP 3 0 rfl rfl hi_11 dX1_perform_115 ?_
          refine lv_iadd hx hb dX1_perform_116 ?_
          refine va_mmin hx hb (by rw [hml]; exact hl.1.symm) hown (hts _ mwX1_perform_2) (hts _ mwX1_perform_3) (hts _ mwX1_perform_4) (hts _ mwX1_perform_5) (Nat.le_of_ble_eq_true rfl) (Nat.le_of_ble_eq_true rfl) (Nat.le_of_ble_eq_true rfl) (Nat.le_of_ble_eq_true rfl) dX1_perform_117 ?_
          refine lv_topi (fun x_12 ex_12 => ?_)
          replace vc := vc x_12 ex_12
          have hi_13 := vc.1
          replace vc := vc.2
          refine va_iast hx hb hK.1 hP hD hS 3 0 rfl rfl hi_13 dX1_perform_120 (fun H locs hP hD hS => ?_)
          have hP : va_P D vwCl [(h_this, .inr (1, [.int v_there, .int v_hair, .int v_year, .ref h_this_wool, .ref h_this_stitches, .ref h_this_place])), (h_this_place, .inl (cI, 10, .inl v_place)), (h_this_stitches, .inl (cI, 10, .inl v_stitches)), (h_this_wool, .inl (cI, 10, .inl (upd v_wool (p1).toNatClampNeg x_12)))] H := hP
          have hD : va_D A [(h_this, .inr (1, [.int v_there, .int v_hair, .int v_year, .ref h_this_wool, .ref h_this_stitches, .ref h_this_place])), (h_this_place, .inl (cI, 10, .inl v_place)), (h_this_stitches, .inl (cI, 10, .inl v_stitches)), (h_this_wool, .inl (cI, 10, .inl (upd v_wool (p1).toNatClampNeg x_12)))] := hD
          refine lv_aload_n hx hb dX1_perform_121 rfl (lv_at hl 0 rfl) ?_
          refine va_get (D := D) (ci := 1) (v := .ref h_this_stitches) (C := RX1) (T := TX1) (N := 6) hx hb hts mcX1_perform_X1 hown hK.1 hP 0 rfl rfl 4 (by decide) (hts _ mwX1_perform_7) (fun _ h9 => h9) rfl dX1_perform_122 ?_
          refine lv_iload_n hx hb dX1_perform_125 rfl (lv_at hl 2 rfl) ?_
          refine lv_dup2_11 hx hb dX1_perform_126 rfl rfl ?_
          have hi_14 := vc.1
          replace vc := vc.2
          refine va_iald hx hb hK.1 hP 2 0 rfl rfl hi_14 dX1_perform_127 ?_
          refine lv_aload_n hx hb dX1_perform_128 rfl (lv_at hl 0 rfl) ?_
          refine va_get (D := D) (ci := 1) (v := .ref h_this_stitches) (C := RX1) (T := TX1) (N := 6) hx hb hts mcX1_perform_X1 hown hK.1 hP 0 rfl rfl 4 (by decide) (hts _ mwX1_perform_7) (fun _ h9 => h9) rfl dX1_perform_129 ?_
          refine lv_iload_n hx hb dX1_perform_132 rfl (lv_at hl 3 rfl) ?_
          have hi_15 := vc.1
          replace vc := vc.2
          refine va_iald hx hb hK.1 hP 2 0 rfl rfl hi_15 dX1_perform_133 ?_
          refine lv_ior hx hb dX1_perform_134 ?_
          refine lv_topi (fun x_16 ex_16 => ?_)
          replace vc := vc x_16 ex_16
          have hi_17 := vc.1
          replace vc := vc.2
          refine va_iast hx hb hK.1 hP hD hS 2 0 rfl rfl hi_17 dX1_perform_135 (fun H locs hP hD hS => ?_)
          have hP : va_P D vwCl [(h_this, .inr (1, [.int v_there, .int v_hair, .int v_year, .ref h_this_wool, .ref h_this_stitches, .ref h_this_place])), (h_this_place, .inl (cI, 10, .inl v_place)), (h_this_stitches, .inl (cI, 10, .inl (upd v_stitches (p1).toNatClampNeg x_16))), (h_this_wool, .inl (cI, 10, .inl (upd v_wool (p1).toNatClampNeg x_12)))] H := hP
          have hD : va_D A [(h_this, .inr (1, [.int v_there, .int v_hair, .int v_year, .ref h_this_wool, .ref h_this_stitches, .ref h_this_place])), (h_this_place, .inl (cI, 10, .inl v_place)), (h_this_stitches, .inl (cI, 10, .inl (upd v_stitches (p1).toNatClampNeg x_16))), (h_this_wool, .inl (cI, 10, .inl (upd v_wool (p1).toNatClampNeg x_12)))] := hD
          refine lv_aload_n hx hb dX1_perform_136 rfl (lv_at hl 0 rfl) ?_
          refine lv_iload_n hx hb dX1_perform_137 rfl (lv_at hl 3 rfl) ?_
          refine kj_v (wr := [(h_this_place, .inl (cI, 10, .inl v_place)), (h_this_stitches, .inl (cI, 10, .inl (upd v_stitches (p1).toNatClampNeg x_16))), (h_this_wool, .inl (cI, 10, .inl (upd v_wool (p1).toNatClampNeg x_12)))]) (rest := []) (kV ⟨hx, hb, hml, hown, hts⟩ (kX1_takeAway _ h_this h_this_wool h_this_stitches h_this_place p2 v_there v_hair v_year vc.1) (cwV 1 hts gX1_perform_X1_takeAway rfl rfl rfl (by decide +kernel) ⟨(Nat.le_of_ble_eq_true rfl), (Nat.le_of_ble_eq_true rfl)⟩) hK hP hD [0] rfl rfl 0 1 rfl rfl rfl rfl rfl hl.1 (Nat.le_of_ble_eq_true rfl) dX1_perform_138 ⟨(Nat.le_of_ble_eq_true rfl), (Nat.le_of_ble_eq_true rfl)⟩) hP hD hS hA [0] [1, 2, 3] rfl rfl rfl rfl (fun u_ H locs hq_ hP hD hS => ?_)
          obtain ⟨g_18, rfl⟩ : ∃ z, z = u_ := ⟨_, rfl⟩
          replace vc := vc.2  g_18 hq_
          refine W.widen (k := 0) (n := 0) (Nat.le_of_ble_eq_true rfl) (Nat.le_of_ble_eq_true rfl) ?_
          have hP : va_P D vwCl [(h_this_place, .inl (cI, 10, .inl v_place)), (h_this_stitches, .inl (cI, 10, .inl (upd v_stitches (p1).toNatClampNeg x_16))), (h_this_wool, .inl (cI, 10, .inl (upd v_wool (p1).toNatClampNeg x_12))), (h_this, .inr (1, [.int g_18, .int v_hair, .int v_year, .ref h_this_wool, .ref h_this_stitches, .ref h_this_place]))] H := hP
          have hD : va_D A [(h_this_place, .inl (cI, 10, .inl v_place)), (h_this_stitches, .inl (cI, 10, .inl (upd v_stitches (p1).toNatClampNeg x_16))), (h_this_wool, .inl (cI, 10, .inl (upd v_wool (p1).toNatClampNeg x_12))), (h_this, .inr (1, [.int g_18, .int v_hair, .int v_year, .ref h_this_wool, .ref h_this_stitches, .ref h_this_place]))] := hD
          refine lv_goto (tgt := 182) hx hb dX1_perform_141 (by decide) ?_
          exact W.vret hx hb hr (fun t ht hW => ⟨⟨(g_18, v_hair, v_year, v_place, (upd v_stitches (p1).toNatClampNeg x_16), (upd v_wool (p1).toNatClampNeg x_12)), rfl, vc, QB_mk (hP.sub [3, 0, 1, 2] rfl) (hD.sub [3, 0, 1, 2] rfl rfl) ht⟩, hS.F ht⟩) hS.2.2 dX1_perform_182
        · replace vc := vc.2 c1_3
          by_cases c1_4 : p0 = (4 : Int32)
          · replace vc := vc.1 c1_4
            refine lv_tableIn (off := 143) (tgt := 144) hx hb dX1_perform_1 (by rw [c1_4]; decide) (by rw [c1_4]; decide) (by rw [c1_4]; rfl) (by decide) ?_
            refine lv_aload_n hx hb dX1_perform_144 rfl (lv_at hl 0 rfl) ?_
            refine lv_iload_n hx hb dX1_perform_145 rfl (lv_at hl 2 rfl) ?_
            refine lv_iload_n hx hb dX1_perform_146 rfl (lv_at hl 3 rfl) ?_
            refine kj_v (wr := [(h_this_stitches, .inl (cI, 10, .inl v_stitches)), (h_this_wool, .inl (cI, 10, .inl v_wool))]) (rest := []) (kV ⟨hx, hb, hml, hown, hts⟩ (kX1_changePlaces _ h_this h_this_wool h_this_stitches h_this_place p1 p2 v_there v_hair v_year v_place vc.1) (cwV 2 hts gX1_perform_X1_changePlaces rfl rfl rfl (by decide +kernel) ⟨(Nat.le_of_ble_eq_true rfl), (Nat.le_of_ble_eq_true rfl)⟩) hK hP hD [0, 1] rfl rfl 0 1 rfl rfl rfl rfl rfl hl.1 (Nat.le_of_ble_eq_true rfl) dX1_perform_147 ⟨(Nat.le_of_ble_eq_true rfl), (Nat.le_of_ble_eq_true rfl)⟩) hP hD hS hA [0, 1] [2, 3] rfl rfl rfl rfl (fun u_ H locs hq_ hP hD hS => ?_)
            obtain ⟨f_19, rfl⟩ : ∃ z, z = u_ := ⟨_, rfl⟩
            replace vc := vc.2  f_19 hq_
            refine W.widen (k := 0) (n := 0) (Nat.le_of_ble_eq_true rfl) (Nat.le_of_ble_eq_true rfl) ?_
            have hP : va_P D vwCl [(h_this_stitches, .inl (cI, 10, .inl v_stitches)), (h_this_wool, .inl (cI, 10, .inl v_wool)), (h_this, .inr (1, [.int v_there, .int v_hair, .int v_year, .ref h_this_wool, .ref h_this_stitches, .ref h_this_place])), (h_this_place, .inl (cI, 10, .inl f_19))] H := hP
            have hD : va_D A [(h_this_stitches, .inl (cI, 10, .inl v_stitches)), (h_this_wool, .inl (cI, 10, .inl v_wool)), (h_this, .inr (1, [.int v_there, .int v_hair, .int v_year, .ref h_this_wool, .ref h_this_stitches, .ref h_this_place])), (h_this_place, .inl (cI, 10, .inl f_19))] := hD
            refine lv_goto (tgt := 182) hx hb dX1_perform_150 (by decide) ?_
            exact W.vret hx hb hr (fun t ht hW => ⟨⟨(v_there, v_hair, v_year, f_19, v_stitches, v_wool), rfl, vc, QB_mk (hP.sub [2, 3, 0, 1] rfl) (hD.sub [2, 3, 0, 1] rfl rfl) ht⟩, hS.F ht⟩) hS.2.2 dX1_perform_182
          · replace vc := vc.2 c1_4
            by_cases c1_5 : p0 = (5 : Int32)
            · replace vc := vc.1 c1_5
              refine lv_tableIn (off := 152) (tgt := 153) hx hb dX1_perform_1 (by rw [c1_5]; decide) (by rw [c1_5]; decide) (by rw [c1_5]; rfl) (by decide) ?_
              refine lv_aload_n hx hb dX1_perform_153 rfl (lv_at hl 0 rfl) ?_
              refine lv_iload_n hx hb dX1_perform_154 rfl (lv_at hl 2 rfl) ?_
              refine kj_v (wr := [(h_this_place, .inl (cI, 10, .inl v_place)), (h_this_stitches, .inl (cI, 10, .inl v_stitches)), (h_this_wool, .inl (cI, 10, .inl v_wool))]) (rest := []) (kV ⟨hx, hb, hml, hown, hts⟩ (kX1_takeAway _ h_this h_this_wool h_this_stitches h_this_place p1 v_there v_hair v_year vc.1) (cwV 1 hts gX1_perform_X1_takeAway rfl rfl rfl (by decide +kernel) ⟨(Nat.le_of_ble_eq_true rfl), (Nat.le_of_ble_eq_true rfl)⟩) hK hP hD [0] rfl rfl 0 1 rfl rfl rfl rfl rfl hl.1 (Nat.le_of_ble_eq_true rfl) dX1_perform_155 ⟨(Nat.le_of_ble_eq_true rfl), (Nat.le_of_ble_eq_true rfl)⟩) hP hD hS hA [0] [1, 2, 3] rfl rfl rfl rfl (fun u_ H locs hq_ hP hD hS => ?_)
              obtain ⟨g_20, rfl⟩ : ∃ z, z = u_ := ⟨_, rfl⟩
              replace vc := vc.2  g_20 hq_
              refine W.widen (k := 0) (n := 0) (Nat.le_of_ble_eq_true rfl) (Nat.le_of_ble_eq_true rfl) ?_
              have hP : va_P D vwCl [(h_this_place, .inl (cI, 10, .inl v_place)), (h_this_stitches, .inl (cI, 10, .inl v_stitches)), (h_this_wool, .inl (cI, 10, .inl v_wool)), (h_this, .inr (1, [.int g_20, .int v_hair, .int v_year, .ref h_this_wool, .ref h_this_stitches, .ref h_this_place]))] H := hP
              have hD : va_D A [(h_this_place, .inl (cI, 10, .inl v_place)), (h_this_stitches, .inl (cI, 10, .inl v_stitches)), (h_this_wool, .inl (cI, 10, .inl v_wool)), (h_this, .inr (1, [.int g_20, .int v_hair, .int v_year, .ref h_this_wool, .ref h_this_stitches, .ref h_this_place]))] := hD
              refine lv_aload_n hx hb dX1_perform_158 rfl (lv_at hl 0 rfl) ?_
              refine lv_sipush (v := (999 : Int32)) hx hb dX1_perform_159 (by decide) ?_
              refine lv_aload_n hx hb dX1_perform_162 rfl (lv_at hl 0 rfl) ?_
              refine va_get (D := D) (ci := 1) (v := .int v_hair) (C := RX1) (T := TX1) (N := 6) hx hb hts mcX1_perform_X1 hown hK.1 hP 3 rfl rfl 1 (by decide) (hts _ mwX1_perform_6) (fun _ h9 => h9) rfl dX1_perform_163 ?_
              refine lv_bipush (v := (10 : Int32)) hx hb dX1_perform_166 (by decide) ?_
              refine lv_iadd hx hb dX1_perform_168 ?_
              refine va_mmin hx hb (by rw [hml]; exact hl.1.symm) hown (hts _ mwX1_perform_2) (hts _ mwX1_perform_3) (hts _ mwX1_perform_4) (hts _ mwX1_perform_5) (Nat.le_of_ble_eq_true rfl) (Nat.le_of_ble_eq_true rfl) (Nat.le_of_ble_eq_true rfl) (Nat.le_of_ble_eq_true rfl) dX1_perform_169 ?_
              refine lv_topi (fun x_21 ex_21 => ?_)
              replace vc := vc x_21 ex_21
              refine va_put (D := D) (ci := 1) (v := .int x_21) (ty := .int) (C := RX1) (T := TX1) (N := 6) hx hb hts mcX1_perform_X1 tyX1 tyX1_ok nmX1 hown hK.1 hP hD hS 3 rfl rfl 1 (by decide) (hts _ mwX1_perform_6) (fun _ h9 => h9) rfl (by decide +kernel) rfl rfl (Nat.le_of_ble_eq_true rfl) dX1_perform_172 (fun H locs hP hD hS => ?_)
              have hP : va_P D vwCl [(h_this_place, .inl (cI, 10, .inl v_place)), (h_this_stitches, .inl (cI, 10, .inl v_stitches)), (h_this_wool, .inl (cI, 10, .inl v_wool)), (h_this, .inr (1, [.int g_20, .int x_21, .int v_year, .ref h_this_wool, .ref h_this_stitches, .ref h_this_place]))] H := hP
              have hD : va_D A [(h_this_place, .inl (cI, 10, .inl v_place)), (h_this_stitches, .inl (cI, 10, .inl v_stitches)), (h_this_wool, .inl (cI, 10, .inl v_wool)), (h_this, .inr (1, [.int g_20, .int x_21, .int v_year, .ref h_this_wool, .ref h_this_stitches, .ref h_this_place]))] := hD
              refine lv_goto (tgt := 182) hx hb dX1_perform_175 (by decide) ?_
              exact W.vret hx hb hr (fun t ht hW => ⟨⟨(g_20, x_21, v_year, v_place, v_stitches, v_wool), rfl, vc, QB_mk (hP.sub [3, 0, 1, 2] rfl) (hD.sub [3, 0, 1, 2] rfl rfl) ht⟩, hS.F ht⟩) hS.2.2 dX1_perform_182
            · replace vc := vc.2 c1_5
              refine lv_tableOut (tgt := 178) hx hb dX1_perform_1 (by have q0_ := neT c1_0 (n := 0) (by decide); have q1_ := neT c1_1 (n := 1) (by decide); have q2_ := neT c1_2 (n := 2) (by decide); have q3_ := neT c1_3 (n := 3) (by decide); have q4_ := neT c1_4 (n := 4) (by decide); have q5_ := neT c1_5 (n := 5) (by decide); omega) (by decide) ?_
              refine lv_aload_n hx hb dX1_perform_178 rfl (lv_at hl 0 rfl) ?_
              refine kj_v (wr := [(h_this_place, .inl (cI, 10, .inl v_place))]) (rest := []) (kV ⟨hx, hb, hml, hown, hts⟩ (kX1_passYear _ h_this h_this_wool h_this_stitches h_this_place v_there v_hair v_year v_stitches v_wool vc.1) (cwV 0 hts gX1_perform_X1_passYear rfl rfl rfl (by decide +kernel) ⟨(Nat.le_of_ble_eq_true rfl), (Nat.le_of_ble_eq_true rfl)⟩) hK hP hD [0, 2, 3] rfl rfl 0 1 rfl rfl rfl rfl rfl hl.1 (Nat.le_of_ble_eq_true rfl) dX1_perform_179 ⟨(Nat.le_of_ble_eq_true rfl), (Nat.le_of_ble_eq_true rfl)⟩) hP hD hS hA [0, 2, 3] [1] rfl rfl rfl rfl (fun u_ H locs hq_ hP hD hS => ?_)
              obtain ⟨g_22, g_23, f_24, f_25⟩ := u_
              replace vc := vc.2  g_22 g_23 f_24 f_25 hq_
              refine W.widen (k := 0) (n := 0) (Nat.le_of_ble_eq_true rfl) (Nat.le_of_ble_eq_true rfl) ?_
              have hP : va_P D vwCl [(h_this_place, .inl (cI, 10, .inl v_place)), (h_this, .inr (1, [.int v_there, .int g_22, .int g_23, .ref h_this_wool, .ref h_this_stitches, .ref h_this_place])), (h_this_stitches, .inl (cI, 10, .inl f_24)), (h_this_wool, .inl (cI, 10, .inl f_25))] H := hP
              have hD : va_D A [(h_this_place, .inl (cI, 10, .inl v_place)), (h_this, .inr (1, [.int v_there, .int g_22, .int g_23, .ref h_this_wool, .ref h_this_stitches, .ref h_this_place])), (h_this_stitches, .inl (cI, 10, .inl f_24)), (h_this_wool, .inl (cI, 10, .inl f_25))] := hD
              exact W.vret hx hb hr (fun t ht hW => ⟨⟨(v_there, g_22, g_23, v_place, f_24, f_25), rfl, vc, QB_mk (hP.sub [1, 0, 2, 3] rfl) (hD.sub [1, 0, 2, 3] rfl rfl) ht⟩, hS.F ht⟩) hS.2.2 dX1_perform_182

def KX1_attempt (l : Launch) (D : va_G) (cI cZ : ClassId) (P : Int32 → Int32 → Int32 → Int32 → Int32 → Int32 → (Nat → Int32) → (Nat → Int32) → (Nat → Int32) → Prop) (Q : Int32 → Int32 → Int32 → Int32 → Int32 → Int32 → (Nat → Int32) → (Nat → Int32) → (Nat → Int32) → Int32 → Int32 → Int32 → Int32 → (Nat → Int32) → (Nat → Int32) → (Nat → Int32) → Prop) : Prop := ∀ (sz : Nat) (h_this h_this_wool h_this_stitches h_this_place : Nat) (p0 : Int32) (p1 : Int32) (p2 : Int32) (v_there : Int32) (v_hair : Int32) (v_year : Int32) (v_place : (Nat → Int32)) (v_stitches : (Nat → Int32)) (v_wool : (Nat → Int32)), P p0 p1 p2 v_there v_hair v_year v_place v_stitches v_wool → MI l yX1_attempt wsX1_attempt ({ frames := 4, cells := 0, slots := 0, locals := 86 }) [.ref h_this, .int p0, .int p1, .int p2] D cI cZ sz [(h_this, .inr (1, [.int v_there, .int v_hair, .int v_year, .ref h_this_wool, .ref h_this_stitches, .ref h_this_place])), (h_this_place, .inl (cI, 10, .inl v_place)), (h_this_stitches, .inl (cI, 10, .inl v_stitches)), (h_this_wool, .inl (cI, 10, .inl v_wool))] (fun r (u : Int32 × Int32 × Int32 × (Nat → Int32) × (Nat → Int32) × (Nat → Int32)) => Q p0 p1 p2 v_there v_hair v_year v_place v_stitches v_wool r (u.1) (u.2.1) (u.2.2.1) (u.2.2.2.1) (u.2.2.2.2.1) (u.2.2.2.2.2)) (fun u => [(h_this, .inr (1, [.int (u.1), .int (u.2.1), .int (u.2.2.1), .ref h_this_wool, .ref h_this_stitches, .ref h_this_place])), (h_this_place, .inl (cI, 10, .inl (u.2.2.2.1))), (h_this_stitches, .inl (cI, 10, .inl (u.2.2.2.2.1))), (h_this_wool, .inl (cI, 10, .inl (u.2.2.2.2.2)))]) 0 0
set_option maxHeartbeats 4000000 in
set_option maxRecDepth 100000 in
theorem walkX1_attempt {l : Launch} {D : va_G} {cI cZ : ClassId} {PX1_attempt : Int32 → Int32 → Int32 → Int32 → Int32 → Int32 → (Nat → Int32) → (Nat → Int32) → (Nat → Int32) → Prop} {QX1_attempt : Int32 → Int32 → Int32 → Int32 → Int32 → Int32 → (Nat → Int32) → (Nat → Int32) → (Nat → Int32) → Int32 → Int32 → Int32 → Int32 → (Nat → Int32) → (Nat → Int32) → (Nat → Int32) → Prop} {PX1_whyNot : Int32 → Int32 → Int32 → Int32 → Int32 → Int32 → (Nat → Int32) → Prop} {QX1_whyNot : Int32 → Int32 → Int32 → Int32 → Int32 → Int32 → (Nat → Int32) → Int32 → Prop} {PX1_perform : Int32 → Int32 → Int32 → Int32 → Int32 → Int32 → (Nat → Int32) → (Nat → Int32) → (Nat → Int32) → Prop} {QX1_perform : Int32 → Int32 → Int32 → Int32 → Int32 → Int32 → (Nat → Int32) → (Nat → Int32) → (Nat → Int32) → Int32 → Int32 → Int32 → (Nat → Int32) → (Nat → Int32) → (Nat → Int32) → Prop} (kX1_whyNot : KX1_whyNot l D cI cZ PX1_whyNot QX1_whyNot) (kX1_perform : KX1_perform l D cI cZ PX1_perform QX1_perform) (hvc : ∀ (p0 : Int32) (p1 : Int32) (p2 : Int32) (v_there : Int32) (v_hair : Int32) (v_year : Int32) (v_place : (Nat → Int32)) (v_stitches : (Nat → Int32)) (v_wool : (Nat → Int32)), PX1_attempt p0 p1 p2 v_there v_hair v_year v_place v_stitches v_wool → (PX1_whyNot p0 p1 p2 v_there v_hair v_year v_wool ∧ (∀ (r_1 : Int32), QX1_whyNot p0 p1 p2 v_there v_hair v_year v_wool r_1  → ((¬ r_1 = 0 → (QX1_attempt p0 p1 p2 v_there v_hair v_year v_place v_stitches v_wool r_1 v_there v_hair v_year v_place v_stitches v_wool)) ∧ (r_1 = 0 → (PX1_perform p0 p1 p2 v_there v_hair v_year v_place v_stitches v_wool ∧ (∀ (g_2 : Int32) (g_3 : Int32) (g_4 : Int32) (f_5 : (Nat → Int32)) (f_6 : (Nat → Int32)) (f_7 : (Nat → Int32)), QX1_perform p0 p1 p2 v_there v_hair v_year v_place v_stitches v_wool g_2 g_3 g_4 f_5 f_6 f_7 → (QX1_attempt p0 p1 p2 v_there v_hair v_year v_place v_stitches v_wool r_1 g_2 g_3 g_4 f_5 f_6 f_7)))))))) : KX1_attempt l D cI cZ PX1_attempt QX1_attempt := by
  intro sz h_this h_this_wool h_this_stitches h_this_place p0 p1 p2 v_there v_hair v_year v_place v_stitches v_wool hpre
  have vc := hvc p0 p1 p2 v_there v_hair v_year v_place v_stitches v_wool hpre
  clear hvc
  refine Met.ofW (cc := cX1_attempt) (maxL := 5) (ret := (some .int)) (by decide) rfl ?_
  intro p e s m args below meth c s₁ B hml hv
  obtain ⟨rfl, hsz, hP, hK, hD0⟩ := hv
  have hx := B.exec
  have hb := B.bytes
  have hr := B.returns
  have hts := atoms_spec (ws := wsX1_attempt) B.pre
  have hown : s.vm.findClass RX1 = some m.cls := findClass_of_methodNamed B.named
  have hlocks := B.notSynchronized
  subst hsz
  have hD := hD0.self (sz := s.heap.size)
  generalize hAe : va_A [(h_this, .inr (1, [.int v_there, .int v_hair, .int v_year, .ref h_this_wool, .ref h_this_stitches, .ref h_this_place])), (h_this_place, .inl (cI, 10, .inl v_place)), (h_this_stitches, .inl (cI, 10, .inl v_stitches)), (h_this_wool, .inl (cI, 10, .inl v_wool))] s.heap.size = A at hD ⊢
  have hA : ∀ q : Nat, s.heap.size ≤ q → A q := fun q h => by rw [← hAe]; exact Or.inr h
  have hS : va_S A s.heap s.heap [] := va_S.rf
  have hP : va_P D vwCl [(h_this, .inr (1, [.int v_there, .int v_hair, .int v_year, .ref h_this_wool, .ref h_this_stitches, .ref h_this_place])), (h_this_place, .inl (cI, 10, .inl v_place)), (h_this_stitches, .inl (cI, 10, .inl v_stitches)), (h_this_wool, .inl (cI, 10, .inl v_wool))] s.heap := hP
  have hl := lv_entry ([.ref h_this, .int p0, .int p1, .int p2]) (n := 5) (Nat.le_of_ble_eq_true rfl)
  rw [lg_entry_eq]
  generalize (lg_sl ([.ref h_this, .int p0, .int p1, .int p2]) ++ List.replicate (5 - (lg_sl ([.ref h_this, .int p0, .int p1, .int p2])).length) Slot.unset).toArray = ls at hl ⊢
  have hl : lv_has ls 5 [(0, .ref h_this), (1, .int p0), (2, .int p1), (3, .int p2)] := hl
  refine lv_aload_n hx hb dX1_attempt_0 rfl (lv_at hl 0 rfl) ?_
  refine lv_iload_n hx hb dX1_attempt_1 rfl (lv_at hl 1 rfl) ?_
  refine lv_iload_n hx hb dX1_attempt_2 rfl (lv_at hl 2 rfl) ?_
  refine lv_iload_n hx hb dX1_attempt_3 rfl (lv_at hl 3 rfl) ?_
  refine kj_i (wr := [(h_this_place, .inl (cI, 10, .inl v_place)), (h_this_stitches, .inl (cI, 10, .inl v_stitches))]) (rest := []) (kV ⟨hx, hb, hml, hown, hts⟩ (kX1_whyNot _ h_this h_this_wool h_this_stitches h_this_place p0 p1 p2 v_there v_hair v_year v_wool vc.1) (cwV 3 hts gX1_attempt_X1_whyNot rfl rfl rfl (by decide +kernel) ⟨(Nat.le_of_ble_eq_true rfl), (Nat.le_of_ble_eq_true rfl)⟩) hK hP hD [0, 3] rfl rfl 0 1 rfl rfl rfl rfl rfl hl.1 (Nat.le_of_ble_eq_true rfl) dX1_attempt_4 ⟨(Nat.le_of_ble_eq_true rfl), (Nat.le_of_ble_eq_true rfl)⟩) hP hD hS hA [0, 3] [1, 2] rfl rfl rfl rfl (fun r_1 u_ H locs hq_ hP hD hS => ?_)
  replace vc := vc.2 r_1  hq_
  have hP : va_P D vwCl [(h_this_place, .inl (cI, 10, .inl v_place)), (h_this_stitches, .inl (cI, 10, .inl v_stitches)), (h_this, .inr (1, [.int v_there, .int v_hair, .int v_year, .ref h_this_wool, .ref h_this_stitches, .ref h_this_place])), (h_this_wool, .inl (cI, 10, .inl v_wool))] H := hP
  have hD : va_D A [(h_this_place, .inl (cI, 10, .inl v_place)), (h_this_stitches, .inl (cI, 10, .inl v_stitches)), (h_this, .inr (1, [.int v_there, .int v_hair, .int v_year, .ref h_this_wool, .ref h_this_stitches, .ref h_this_place])), (h_this_wool, .inl (cI, 10, .inl v_wool))] := hD
  refine lv_istore (lv' := [(4, .int r_1), (0, .ref h_this), (1, .int p0), (2, .int p1), (3, .int p2)]) hx hb dX1_attempt_7 hl (by decide) rfl (fun ls hl => ?_)
  refine lv_iload hx hb dX1_attempt_9 (lv_at hl 0 rfl) ?_
  refine lv_if_ne (tgt := 21) hx hb dX1_attempt_11 (by decide) (fun c_ => ?_) (fun c_ => ?_)
  · replace vc := vc.1 c_
    refine lv_iload hx hb dX1_attempt_21 (lv_at hl 0 rfl) ?_
    exact W.iret (v := r_1) hx hb hr (fun t ht hW => ⟨⟨r_1, (v_there, v_hair, v_year, v_place, v_stitches, v_wool), rfl, vc, QB_mk (hP.sub [2, 0, 1, 3] rfl) (hD.sub [2, 0, 1, 3] rfl rfl) ht⟩, hS.F ht⟩) hS.2.2 dX1_attempt_23
  · replace vc := vc.2 c_
    refine lv_aload_n hx hb dX1_attempt_14 rfl (lv_at hl 1 rfl) ?_
    refine lv_iload_n hx hb dX1_attempt_15 rfl (lv_at hl 2 rfl) ?_
    refine lv_iload_n hx hb dX1_attempt_16 rfl (lv_at hl 3 rfl) ?_
    refine lv_iload_n hx hb dX1_attempt_17 rfl (lv_at hl 4 rfl) ?_
    refine kj_v (wr := []) (rest := []) (kV ⟨hx, hb, hml, hown, hts⟩ (kX1_perform _ h_this h_this_wool h_this_stitches h_this_place p0 p1 p2 v_there v_hair v_year v_place v_stitches v_wool vc.1) (cwV 3 hts gX1_attempt_X1_perform rfl rfl rfl (by decide +kernel) ⟨(Nat.le_of_ble_eq_true rfl), (Nat.le_of_ble_eq_true rfl)⟩) hK hP hD [2, 0, 1, 3] rfl rfl 0 1 rfl rfl rfl rfl rfl hl.1 (Nat.le_of_ble_eq_true rfl) dX1_attempt_18 ⟨(Nat.le_of_ble_eq_true rfl), (Nat.le_of_ble_eq_true rfl)⟩) hP hD hS hA [2, 0, 1, 3] [] rfl rfl rfl rfl (fun u_ H locs hq_ hP hD hS => ?_)
    obtain ⟨g_2, g_3, g_4, f_5, f_6, f_7⟩ := u_
    replace vc := vc.2  g_2 g_3 g_4 f_5 f_6 f_7 hq_
    refine W.widen (k := 0) (n := 0) (Nat.le_of_ble_eq_true rfl) (Nat.le_of_ble_eq_true rfl) ?_
    have hP : va_P D vwCl [(h_this, .inr (1, [.int g_2, .int g_3, .int g_4, .ref h_this_wool, .ref h_this_stitches, .ref h_this_place])), (h_this_place, .inl (cI, 10, .inl f_5)), (h_this_stitches, .inl (cI, 10, .inl f_6)), (h_this_wool, .inl (cI, 10, .inl f_7))] H := hP
    have hD : va_D A [(h_this, .inr (1, [.int g_2, .int g_3, .int g_4, .ref h_this_wool, .ref h_this_stitches, .ref h_this_place])), (h_this_place, .inl (cI, 10, .inl f_5)), (h_this_stitches, .inl (cI, 10, .inl f_6)), (h_this_wool, .inl (cI, 10, .inl f_7))] := hD
    refine lv_iload hx hb dX1_attempt_21 (lv_at hl 0 rfl) ?_
    exact W.iret (v := r_1) hx hb hr (fun t ht hW => ⟨⟨r_1, (g_2, g_3, g_4, f_5, f_6, f_7), rfl, vc, QB_mk (hP.sub [0, 1, 2, 3] rfl) (hD.sub [0, 1, 2, 3] rfl rfl) ht⟩, hS.F ht⟩) hS.2.2 dX1_attempt_23

theorem mwX4_init_1 : Cond.methodLink RX4 3 objectInit ∈ wsX4_init := List.mem_of_getElem? (i := 1) rfl
theorem mwX4_init_2 : Cond.instanceMethod objectInit ∈ wsX4_init := List.mem_of_getElem? (i := 2) rfl
theorem mwX4_init_3 : Cond.code objectInit ⟨#[0xb1]⟩ 1 none ∈ wsX4_init := List.mem_of_getElem? (i := 3) rfl
theorem mwX4_init_4 : Cond.fieldLink RX4 9 "HassockSee$Sights" "count" "I" ∈ wsX4_init := List.mem_of_getElem? (i := 4) rfl
theorem mwX4_init_5 : Cond.arrayClass .int ∈ wsX4_init := List.mem_of_getElem? (i := 5) rfl
theorem mwX4_init_6 : Cond.fieldLink RX4 15 "HassockSee$Sights" "sundays" "[I" ∈ wsX4_init := List.mem_of_getElem? (i := 6) rfl
theorem mwX4_init_7 : Cond.fieldLink RX4 19 "HassockSee$Sights" "felt" "[I" ∈ wsX4_init := List.mem_of_getElem? (i := 7) rfl
theorem mcX4_init_X4 : ∀ w ∈ u_ws RX4 TX4 3, w ∈ wsX4_init := fun _ h => (List.mem_cons_of_mem _ (List.mem_append_right _ h))
def KX4_init (l : Launch) (D : va_G) (cI cZ : ClassId) (Q : Int32 → (Nat → Int32) → (Nat → Int32) → Prop) : Prop := ∀ (sz : Nat) (h_this : Nat), MV l yX4_init wsX4_init ({ frames := 1, cells := 2, slots := 16, locals := 30 }) [.ref h_this] D cI cZ sz [(h_this, .inr (4, [.int 0, .null, .null]))] (fun (u : Nat × Nat × Int32 × (Nat → Int32) × (Nat → Int32)) => Q  (u.2.2.1) (u.2.2.2.1) (u.2.2.2.2)) (fun u => [(h_this, .inr (4, [.int (u.2.2.1), .ref (u.1), .ref (u.2.1)])), ((u.1), .inl (cI, 8, .inl (u.2.2.2.1))), ((u.2.1), .inl (cI, 8, .inl (u.2.2.2.2)))]) 2 16
set_option maxHeartbeats 4000000 in
set_option maxRecDepth 100000 in
theorem walkX4_init {l : Launch} {D : va_G} {cI cZ : ClassId} {QX4_init : Int32 → (Nat → Int32) → (Nat → Int32) → Prop}  (hvc : QX4_init (0 : Int32) (fun _ => 0) (fun _ => 0)) : KX4_init l D cI cZ QX4_init := by
  intro sz h_this 
  have vc := hvc
  clear hvc
  refine Met.ofW (cc := cX4_init) (maxL := 1) (ret := none) (by decide) rfl ?_
  intro p e s m args below meth c s₁ B hml hv
  obtain ⟨rfl, hsz, hP, hK, hD0⟩ := hv
  have hx := B.exec
  have hb := B.bytes
  have hr := B.returns
  have hts := atoms_spec (ws := wsX4_init) B.pre
  have hown : s.vm.findClass RX4 = some m.cls := findClass_of_methodNamed B.named
  have hlocks := B.notSynchronized
  have hin : meth.name = "<init>" := (name_of_methodNamed B.named B.method).1
  subst hsz
  have hD := hD0.self (sz := s.heap.size)
  generalize hAe : va_A [(h_this, .inr (4, [.int 0, .null, .null]))] s.heap.size = A at hD ⊢
  have hA : ∀ q : Nat, s.heap.size ≤ q → A q := fun q h => by rw [← hAe]; exact Or.inr h
  have hS : va_S A s.heap s.heap [] := va_S.rf
  have hP : va_P D vwCl [(h_this, .inr (4, [.int 0, .null, .null]))] s.heap := hP
  have hl := lv_entry ([.ref h_this]) (n := 1) (Nat.le_of_ble_eq_true rfl)
  rw [lg_entry_eq]
  generalize (lg_sl ([.ref h_this]) ++ List.replicate (1 - (lg_sl ([.ref h_this])).length) Slot.unset).toArray = ls at hl ⊢
  have hl : lv_has ls 1 [(0, .ref h_this)] := hl
  refine lv_aload_n hx hb dX4_init_0 rfl (lv_at hl 0 rfl) ?_
  refine W.objInit hx hb hown (hts _ mwX4_init_1) (hts _ mwX4_init_2) (hts _ mwX4_init_3) rfl (by rw [hml]; exact hl.1) rfl dX4_init_1 (Nat.le_of_ble_eq_true rfl) (Nat.le_of_ble_eq_true rfl) ?_
  refine W.eq (g2 := F0 m 4 ls []) rfl ?_
  refine lv_aload_n hx hb dX4_init_4 rfl (lv_at hl 0 rfl) ?_
  refine lv_iconst (v := (0 : Int32)) hx hb dX4_init_5 (by decide) ?_
  refine va_put (D := D) (ci := 4) (v := .int (0 : Int32)) (ty := .int) (C := RX4) (T := TX4) (N := 3) hx hb hts mcX4_init_X4 tyX4 tyX4_ok nmX4 hown hK.1 hP hD hS 0 rfl rfl 0 (by decide) (hts _ mwX4_init_4) (fun _ h9 => h9) rfl (by decide +kernel) rfl rfl (Nat.le_of_ble_eq_true rfl) dX4_init_6 (fun H locs hP hD hS => ?_)
  have hP : va_P D vwCl [(h_this, .inr (4, [.int (0 : Int32), .null, .null]))] H := hP
  have hD : va_D A [(h_this, .inr (4, [.int (0 : Int32), .null, .null]))] := hD
  refine lv_aload_n hx hb dX4_init_9 rfl (lv_at hl 0 rfl) ?_
  refine lv_bipush (v := (8 : Int32)) hx hb dX4_init_10 (by decide) ?_
  refine va_newa (atype := .int) (ty := .int) (N' := 8) (a0 := (8, .inl (fun _ => 0))) hx hb (hts _ mwX4_init_5) rfl hK.1 hP hD hS hA (fun _ => rfl) (by decide) (by decide) (Nat.le_of_ble_eq_true rfl) (Nat.le_of_ble_eq_true rfl) (Nat.le_of_ble_eq_true rfl) dX4_init_12 (fun q12 cA_ H hK_ hP hD hS => ?_)
  have ecA_ : cI = cA_ := Option.some.inj ((hK.1.2 0 _ rfl).2.symm.trans (hK_.2 2 _ rfl).2)
  subst ecA_
  have hP : va_P D vwCl [(h_this, .inr (4, [.int (0 : Int32), .null, .null])), (q12, .inl (cI, 8, .inl (fun _ => 0)))] H := hP
  have hD : va_D A [(h_this, .inr (4, [.int (0 : Int32), .null, .null])), (q12, .inl (cI, 8, .inl (fun _ => 0)))] := hD
  refine W.widen (k := 1) (n := 8) (Nat.le_of_ble_eq_true rfl) (Nat.le_of_ble_eq_true rfl) ?_
  refine va_putF (D := D) (ci := 4) (v := .ref q12) (ty := .array .int) (C := RX4) (T := TX4) (N := 3) hx hb hts mcX4_init_X4 tyX4 tyX4_ok nmX4 hown hK.1 hP hD hS 0 rfl rfl 1 (by decide) (hts _ mwX4_init_6) (fun _ h9 => h9) rfl hin rfl (by decide +kernel) rfl rfl (Nat.le_of_ble_eq_true rfl) dX4_init_14 (fun H locs hP hD hS => ?_)
  have hP : va_P D vwCl [(h_this, .inr (4, [.int (0 : Int32), .ref q12, .null])), (q12, .inl (cI, 8, .inl (fun _ => 0)))] H := hP
  have hD : va_D A [(h_this, .inr (4, [.int (0 : Int32), .ref q12, .null])), (q12, .inl (cI, 8, .inl (fun _ => 0)))] := hD
  refine lv_aload_n hx hb dX4_init_17 rfl (lv_at hl 0 rfl) ?_
  refine lv_bipush (v := (8 : Int32)) hx hb dX4_init_18 (by decide) ?_
  refine va_newa (atype := .int) (ty := .int) (N' := 8) (a0 := (8, .inl (fun _ => 0))) hx hb (hts _ mwX4_init_5) rfl hK.1 hP hD hS hA (fun _ => rfl) (by decide) (by decide) (Nat.le_of_ble_eq_true rfl) (Nat.le_of_ble_eq_true rfl) (Nat.le_of_ble_eq_true rfl) dX4_init_20 (fun q20 cA_ H hK_ hP hD hS => ?_)
  have ecA_ : cI = cA_ := Option.some.inj ((hK.1.2 0 _ rfl).2.symm.trans (hK_.2 2 _ rfl).2)
  subst ecA_
  have hP : va_P D vwCl [(h_this, .inr (4, [.int (0 : Int32), .ref q12, .null])), (q12, .inl (cI, 8, .inl (fun _ => 0))), (q20, .inl (cI, 8, .inl (fun _ => 0)))] H := hP
  have hD : va_D A [(h_this, .inr (4, [.int (0 : Int32), .ref q12, .null])), (q12, .inl (cI, 8, .inl (fun _ => 0))), (q20, .inl (cI, 8, .inl (fun _ => 0)))] := hD
  refine W.widen (k := 2) (n := 16) (Nat.le_of_ble_eq_true rfl) (Nat.le_of_ble_eq_true rfl) ?_
  refine va_putF (D := D) (ci := 4) (v := .ref q20) (ty := .array .int) (C := RX4) (T := TX4) (N := 3) hx hb hts mcX4_init_X4 tyX4 tyX4_ok nmX4 hown hK.1 hP hD hS 0 rfl rfl 2 (by decide) (hts _ mwX4_init_7) (fun _ h9 => h9) rfl hin rfl (by decide +kernel) rfl rfl (Nat.le_of_ble_eq_true rfl) dX4_init_22 (fun H locs hP hD hS => ?_)
  have hP : va_P D vwCl [(h_this, .inr (4, [.int (0 : Int32), .ref q12, .ref q20])), (q12, .inl (cI, 8, .inl (fun _ => 0))), (q20, .inl (cI, 8, .inl (fun _ => 0)))] H := hP
  have hD : va_D A [(h_this, .inr (4, [.int (0 : Int32), .ref q12, .ref q20])), (q12, .inl (cI, 8, .inl (fun _ => 0))), (q20, .inl (cI, 8, .inl (fun _ => 0)))] := hD
  exact W.vret hx hb hr (fun t ht hW => ⟨⟨(q12, q20, (0 : Int32), (fun _ => 0), (fun _ => 0)), rfl, vc, QB_mk (hP.sub [0, 1, 2] rfl) (hD.sub [0, 1, 2] rfl rfl) ht⟩, hS.F ht⟩) hS.2.2 dX4_init_25

theorem mwX2_init_1 : Cond.methodLink RX2 1 objectInit ∈ wsX2_init := List.mem_of_getElem? (i := 1) rfl
theorem mwX2_init_2 : Cond.instanceMethod objectInit ∈ wsX2_init := List.mem_of_getElem? (i := 2) rfl
theorem mwX2_init_3 : Cond.code objectInit ⟨#[0xb1]⟩ 1 none ∈ wsX2_init := List.mem_of_getElem? (i := 3) rfl
theorem mwX2_init_4 : Cond.fieldLink RX2 7 "HassockSee$Image" "kept" "Z" ∈ wsX2_init := List.mem_of_getElem? (i := 4) rfl
theorem mwX2_init_5 : Cond.classLink RX2 13 RX1 ∈ wsX2_init := List.mem_of_getElem? (i := 5) rfl
theorem mwX2_init_6 : Cond.instantiable RX1 6 ∈ wsX2_init := List.mem_of_getElem? (i := 6) rfl
theorem mwX2_init_7 : Cond.initialized RX1 ∈ wsX2_init := List.mem_of_getElem? (i := 7) rfl
theorem mwX2_init_8 : Cond.fieldLink RX2 16 "HassockSee$Image" "diocese" "LHassockSee$Diocese;" ∈ wsX2_init := List.mem_of_getElem? (i := 8) rfl
theorem mwX2_init_9 : Cond.classLink RX2 20 RX4 ∈ wsX2_init := List.mem_of_getElem? (i := 9) rfl
theorem mwX2_init_10 : Cond.instantiable RX4 3 ∈ wsX2_init := List.mem_of_getElem? (i := 10) rfl
theorem mwX2_init_11 : Cond.initialized RX4 ∈ wsX2_init := List.mem_of_getElem? (i := 11) rfl
theorem mwX2_init_12 : Cond.fieldLink RX2 23 "HassockSee$Image" "sights" "LHassockSee$Sights;" ∈ wsX2_init := List.mem_of_getElem? (i := 12) rfl
theorem mwX2_init_13 : Cond.methodLink RX2 15 yX1_init ∈ wsX2_init := List.mem_of_getElem? (i := 13) rfl
theorem mwX2_init_14 : Cond.instanceMethod yX1_init ∈ wsX2_init := List.mem_of_getElem? (i := 14) rfl
theorem mwX2_init_24 : Cond.instanceMethod yX4_init ∈ wsX2_init := List.mem_of_getElem? (i := 24) rfl
theorem mcX2_init_X1 : ∀ w ∈ u_ws RX1 TX1 6, w ∈ wsX2_init := fun _ h => (List.mem_cons_of_mem _ (List.mem_append_left _ (List.mem_append_right _ h)))
theorem mcX2_init_X2 : ∀ w ∈ u_ws RX2 TX2 3, w ∈ wsX2_init := fun _ h => (List.mem_cons_of_mem _ (List.mem_append_left _ (List.mem_append_left _ (List.mem_append_right _ h))))
theorem mcX2_init_X4 : ∀ w ∈ u_ws RX4 TX4 3, w ∈ wsX2_init := fun _ h => (List.mem_cons_of_mem _ (List.mem_append_right _ h))
def KX2_init (l : Launch) (D : va_G) (cI cZ : ClassId) (Q : Int32 → Int32 → Int32 → Int32 → (Nat → Int32) → (Nat → Int32) → (Nat → Int32) → Int32 → (Nat → Int32) → (Nat → Int32) → Prop) : Prop := ∀ (sz : Nat) (h_this : Nat), MV l yX2_init wsX2_init ({ frames := 2, cells := 7, slots := 55, locals := 51 }) [.ref h_this] D cI cZ sz [(h_this, .inr (2, [.int 0, .null, .null]))] (fun (u : Nat × Nat × Nat × Nat × Nat × Nat × Nat × Int32 × Int32 × Int32 × Int32 × (Nat → Int32) × (Nat → Int32) × (Nat → Int32) × Int32 × (Nat → Int32) × (Nat → Int32)) => Q  (u.2.2.2.2.2.2.2.1) (u.2.2.2.2.2.2.2.2.1) (u.2.2.2.2.2.2.2.2.2.1) (u.2.2.2.2.2.2.2.2.2.2.1) (u.2.2.2.2.2.2.2.2.2.2.2.1) (u.2.2.2.2.2.2.2.2.2.2.2.2.1) (u.2.2.2.2.2.2.2.2.2.2.2.2.2.1) (u.2.2.2.2.2.2.2.2.2.2.2.2.2.2.1) (u.2.2.2.2.2.2.2.2.2.2.2.2.2.2.2.1) (u.2.2.2.2.2.2.2.2.2.2.2.2.2.2.2.2)) (fun u => [(h_this, .inr (2, [.int (u.2.2.2.2.2.2.2.1), .ref (u.1), .ref (u.2.2.2.2.1)])), ((u.1), .inr (1, [.int (u.2.2.2.2.2.2.2.2.1), .int (u.2.2.2.2.2.2.2.2.2.1), .int (u.2.2.2.2.2.2.2.2.2.2.1), .ref (u.2.1), .ref (u.2.2.1), .ref (u.2.2.2.1)])), ((u.2.1), .inl (cI, 10, .inl (u.2.2.2.2.2.2.2.2.2.2.2.1))), ((u.2.2.1), .inl (cI, 10, .inl (u.2.2.2.2.2.2.2.2.2.2.2.2.1))), ((u.2.2.2.1), .inl (cI, 10, .inl (u.2.2.2.2.2.2.2.2.2.2.2.2.2.1))), ((u.2.2.2.2.1), .inr (4, [.int (u.2.2.2.2.2.2.2.2.2.2.2.2.2.2.1), .ref (u.2.2.2.2.2.1), .ref (u.2.2.2.2.2.2.1)])), ((u.2.2.2.2.2.1), .inl (cI, 8, .inl (u.2.2.2.2.2.2.2.2.2.2.2.2.2.2.2.1))), ((u.2.2.2.2.2.2.1), .inl (cI, 8, .inl (u.2.2.2.2.2.2.2.2.2.2.2.2.2.2.2.2)))]) 7 55
set_option maxHeartbeats 4000000 in
set_option maxRecDepth 100000 in
theorem walkX2_init {l : Launch} {D : va_G} {cI cZ : ClassId} {QX2_init : Int32 → Int32 → Int32 → Int32 → (Nat → Int32) → (Nat → Int32) → (Nat → Int32) → Int32 → (Nat → Int32) → (Nat → Int32) → Prop} {QX1_init : Int32 → Int32 → Int32 → (Nat → Int32) → (Nat → Int32) → (Nat → Int32) → Prop} {QX4_init : Int32 → (Nat → Int32) → (Nat → Int32) → Prop} (kX1_init : KX1_init l D cI cZ QX1_init) (kX4_init : KX4_init l D cI cZ QX4_init) (hvc : (∀ (g_1 : Int32) (g_2 : Int32) (g_3 : Int32) (f_5 : (Nat → Int32)) (f_7 : (Nat → Int32)) (f_9 : (Nat → Int32)), QX1_init g_1 g_2 g_3 f_5 f_7 f_9 → (∀ (g_10 : Int32) (f_12 : (Nat → Int32)) (f_14 : (Nat → Int32)), QX4_init g_10 f_12 f_14 → QX2_init (0 : Int32) g_1 g_2 g_3 f_5 f_7 f_9 g_10 f_12 f_14))) : KX2_init l D cI cZ QX2_init := by
  intro sz h_this 
  have vc := hvc
  clear hvc
  refine Met.ofW (cc := cX2_init) (maxL := 1) (ret := none) (by decide) rfl ?_
  intro p e s m args below meth c s₁ B hml hv
  obtain ⟨rfl, hsz, hP, hK, hD0⟩ := hv
  have hx := B.exec
  have hb := B.bytes
  have hr := B.returns
  have hts := atoms_spec (ws := wsX2_init) B.pre
  have hown : s.vm.findClass RX2 = some m.cls := findClass_of_methodNamed B.named
  have hlocks := B.notSynchronized
  have hin : meth.name = "<init>" := (name_of_methodNamed B.named B.method).1
  subst hsz
  have hD := hD0.self (sz := s.heap.size)
  generalize hAe : va_A [(h_this, .inr (2, [.int 0, .null, .null]))] s.heap.size = A at hD ⊢
  have hA : ∀ q : Nat, s.heap.size ≤ q → A q := fun q h => by rw [← hAe]; exact Or.inr h
  have hS : va_S A s.heap s.heap [] := va_S.rf
  have hP : va_P D vwCl [(h_this, .inr (2, [.int 0, .null, .null]))] s.heap := hP
  have hl := lv_entry ([.ref h_this]) (n := 1) (Nat.le_of_ble_eq_true rfl)
  rw [lg_entry_eq]
  generalize (lg_sl ([.ref h_this]) ++ List.replicate (1 - (lg_sl ([.ref h_this])).length) Slot.unset).toArray = ls at hl ⊢
  have hl : lv_has ls 1 [(0, .ref h_this)] := hl
  refine lv_aload_n hx hb dX2_init_0 rfl (lv_at hl 0 rfl) ?_
  refine W.objInit hx hb hown (hts _ mwX2_init_1) (hts _ mwX2_init_2) (hts _ mwX2_init_3) rfl (by rw [hml]; exact hl.1) rfl dX2_init_1 (Nat.le_of_ble_eq_true rfl) (Nat.le_of_ble_eq_true rfl) ?_
  refine W.eq (g2 := F0 m 4 ls []) rfl ?_
  refine lv_aload_n hx hb dX2_init_4 rfl (lv_at hl 0 rfl) ?_
  refine lv_iconst (v := (0 : Int32)) hx hb dX2_init_5 (by decide) ?_
  refine va_put (D := D) (ci := 2) (v := .int (0 : Int32)) (ty := .boolean) (C := RX2) (T := TX2) (N := 3) hx hb hts mcX2_init_X2 tyX2 tyX2_ok nmX2 hown hK.1 hP hD hS 0 rfl rfl 0 (by decide) (hts _ mwX2_init_4) (fun _ h9 => h9) rfl (by decide +kernel) rfl rfl (Nat.le_of_ble_eq_true rfl) dX2_init_6 (fun H locs hP hD hS => ?_)
  have hP : va_P D vwCl [(h_this, .inr (2, [.int (0 : Int32), .null, .null]))] H := hP
  have hD : va_D A [(h_this, .inr (2, [.int (0 : Int32), .null, .null]))] := hD
  refine lv_aload_n hx hb dX2_init_9 rfl (lv_at hl 0 rfl) ?_
  refine va_new (ci := 1) (fs := [.int 0, .int 0, .int 0, .null, .null, .null]) (C := RX1) (T := TX1) (N := 6) hx hb hts mcX2_init_X1 tyX1 tyX1_ok hown (hts _ mwX2_init_5) (hts _ mwX2_init_6) (hts _ mwX2_init_7) hK.1 hP hD hS hA rfl (fun j hj => by rcases (show j = 0 ∨ j = 1 ∨ j = 2 ∨ j = 3 ∨ j = 4 ∨ j = 5 by omega) with rfl | rfl | rfl | rfl | rfl | rfl <;> rfl) (Nat.le_of_ble_eq_true rfl) (Nat.le_of_ble_eq_true rfl) dX2_init_10 (fun q10 H hP hD hS => ?_)
  have hP : va_P D vwCl [(h_this, .inr (2, [.int (0 : Int32), .null, .null])), (q10, .inr (1, [.int 0, .int 0, .int 0, .null, .null, .null]))] H := hP
  have hD : va_D A [(h_this, .inr (2, [.int (0 : Int32), .null, .null])), (q10, .inr (1, [.int 0, .int 0, .int 0, .null, .null, .null]))] := hD
  refine W.widen (k := 1) (n := 6) (Nat.le_of_ble_eq_true rfl) (Nat.le_of_ble_eq_true rfl) ?_
  refine lv_dup hx hb dX2_init_13 rfl ?_
  refine kj_v (wr := [(h_this, .inr (2, [.int (0 : Int32), .null, .null]))]) (rest := [.ref q10, .ref h_this]) (kI ⟨hx, hb, hml, hown, hts⟩ (kX1_init _ q10) (cwI 0 hts gX2_init_X1_init rfl rfl rfl (hts _ mwX2_init_7) (hts _ mwX2_init_13) (hts _ mwX2_init_14) rfl (by decide +kernel) ⟨(Nat.le_of_ble_eq_true rfl), (Nat.le_of_ble_eq_true rfl)⟩) hK hP hD [1] rfl rfl rfl rfl hl.1 (Nat.le_of_ble_eq_true rfl) dX2_init_14 ⟨(Nat.le_of_ble_eq_true rfl), (Nat.le_of_ble_eq_true rfl)⟩) hP hD hS hA [1] [0] rfl rfl rfl rfl (fun u_ H locs hq_ hP hD hS => ?_)
  obtain ⟨q_4, q_6, q_8, g_1, g_2, g_3, f_5, f_7, f_9⟩ := u_
  replace vc := vc g_1 g_2 g_3 f_5 f_7 f_9 hq_
  refine W.widen (k := 4) (n := 36) (Nat.le_of_ble_eq_true rfl) (Nat.le_of_ble_eq_true rfl) ?_
  have hP : va_P D vwCl [(h_this, .inr (2, [.int (0 : Int32), .null, .null])), (q10, .inr (1, [.int g_1, .int g_2, .int g_3, .ref q_4, .ref q_6, .ref q_8])), (q_4, .inl (cI, 10, .inl f_5)), (q_6, .inl (cI, 10, .inl f_7)), (q_8, .inl (cI, 10, .inl f_9))] H := hP
  have hD : va_D A [(h_this, .inr (2, [.int (0 : Int32), .null, .null])), (q10, .inr (1, [.int g_1, .int g_2, .int g_3, .ref q_4, .ref q_6, .ref q_8])), (q_4, .inl (cI, 10, .inl f_5)), (q_6, .inl (cI, 10, .inl f_7)), (q_8, .inl (cI, 10, .inl f_9))] := hD
  refine va_putF (D := D) (ci := 2) (v := .ref q10) (ty := .object "HassockSee$Diocese") (C := RX2) (T := TX2) (N := 3) hx hb hts mcX2_init_X2 tyX2 tyX2_ok nmX2 hown hK.1 hP hD hS 0 rfl rfl 1 (by decide) (hts _ mwX2_init_8) (fun _ h9 => h9) rfl hin rfl (by decide +kernel) rfl rfl (Nat.le_of_ble_eq_true rfl) dX2_init_17 (fun H locs hP hD hS => ?_)
  have hP : va_P D vwCl [(h_this, .inr (2, [.int (0 : Int32), .ref q10, .null])), (q10, .inr (1, [.int g_1, .int g_2, .int g_3, .ref q_4, .ref q_6, .ref q_8])), (q_4, .inl (cI, 10, .inl f_5)), (q_6, .inl (cI, 10, .inl f_7)), (q_8, .inl (cI, 10, .inl f_9))] H := hP
  have hD : va_D A [(h_this, .inr (2, [.int (0 : Int32), .ref q10, .null])), (q10, .inr (1, [.int g_1, .int g_2, .int g_3, .ref q_4, .ref q_6, .ref q_8])), (q_4, .inl (cI, 10, .inl f_5)), (q_6, .inl (cI, 10, .inl f_7)), (q_8, .inl (cI, 10, .inl f_9))] := hD
  refine lv_aload_n hx hb dX2_init_20 rfl (lv_at hl 0 rfl) ?_
  refine va_new (ci := 4) (fs := [.int 0, .null, .null]) (C := RX4) (T := TX4) (N := 3) hx hb hts mcX2_init_X4 tyX4 tyX4_ok hown (hts _ mwX2_init_9) (hts _ mwX2_init_10) (hts _ mwX2_init_11) hK.1 hP hD hS hA rfl (fun j hj => by rcases (show j = 0 ∨ j = 1 ∨ j = 2 by omega) with rfl | rfl | rfl <;> rfl) (Nat.le_of_ble_eq_true rfl) (Nat.le_of_ble_eq_true rfl) dX2_init_21 (fun q21 H hP hD hS => ?_)
  have hP : va_P D vwCl [(h_this, .inr (2, [.int (0 : Int32), .ref q10, .null])), (q10, .inr (1, [.int g_1, .int g_2, .int g_3, .ref q_4, .ref q_6, .ref q_8])), (q_4, .inl (cI, 10, .inl f_5)), (q_6, .inl (cI, 10, .inl f_7)), (q_8, .inl (cI, 10, .inl f_9)), (q21, .inr (4, [.int 0, .null, .null]))] H := hP
  have hD : va_D A [(h_this, .inr (2, [.int (0 : Int32), .ref q10, .null])), (q10, .inr (1, [.int g_1, .int g_2, .int g_3, .ref q_4, .ref q_6, .ref q_8])), (q_4, .inl (cI, 10, .inl f_5)), (q_6, .inl (cI, 10, .inl f_7)), (q_8, .inl (cI, 10, .inl f_9)), (q21, .inr (4, [.int 0, .null, .null]))] := hD
  refine W.widen (k := 5) (n := 39) (Nat.le_of_ble_eq_true rfl) (Nat.le_of_ble_eq_true rfl) ?_
  refine lv_dup hx hb dX2_init_24 rfl ?_
  refine kj_v (wr := [(h_this, .inr (2, [.int (0 : Int32), .ref q10, .null])), (q10, .inr (1, [.int g_1, .int g_2, .int g_3, .ref q_4, .ref q_6, .ref q_8])), (q_4, .inl (cI, 10, .inl f_5)), (q_6, .inl (cI, 10, .inl f_7)), (q_8, .inl (cI, 10, .inl f_9))]) (rest := [.ref q21, .ref h_this]) (kIN ⟨hx, hb, hml, hown, hts⟩ (kX4_init _ q21) ⟨va_cnB 0 hts gX2_init_X4_init_n22 rfl rfl rfl (KK_n9 hK) (hts _ mwX2_init_11) (by decide +kernel) ⟨(Nat.le_of_ble_eq_true rfl), (Nat.le_of_ble_eq_true rfl)⟩, rfl, (hts _ mwX2_init_24)⟩ hK hP hD [5] rfl rfl rfl rfl hl.1 (Nat.le_of_ble_eq_true rfl) dX2_init_25 ⟨(Nat.le_of_ble_eq_true rfl), (Nat.le_of_ble_eq_true rfl)⟩) hP hD hS hA [5] [0, 1, 2, 3, 4] rfl rfl rfl rfl (fun u_ H locs hq_ hP hD hS => ?_)
  obtain ⟨q_11, q_13, g_10, f_12, f_14⟩ := u_
  replace vc := vc g_10 f_12 f_14 hq_
  refine W.widen (k := 7) (n := 55) (Nat.le_of_ble_eq_true rfl) (Nat.le_of_ble_eq_true rfl) ?_
  have hP : va_P D vwCl [(h_this, .inr (2, [.int (0 : Int32), .ref q10, .null])), (q10, .inr (1, [.int g_1, .int g_2, .int g_3, .ref q_4, .ref q_6, .ref q_8])), (q_4, .inl (cI, 10, .inl f_5)), (q_6, .inl (cI, 10, .inl f_7)), (q_8, .inl (cI, 10, .inl f_9)), (q21, .inr (4, [.int g_10, .ref q_11, .ref q_13])), (q_11, .inl (cI, 8, .inl f_12)), (q_13, .inl (cI, 8, .inl f_14))] H := hP
  have hD : va_D A [(h_this, .inr (2, [.int (0 : Int32), .ref q10, .null])), (q10, .inr (1, [.int g_1, .int g_2, .int g_3, .ref q_4, .ref q_6, .ref q_8])), (q_4, .inl (cI, 10, .inl f_5)), (q_6, .inl (cI, 10, .inl f_7)), (q_8, .inl (cI, 10, .inl f_9)), (q21, .inr (4, [.int g_10, .ref q_11, .ref q_13])), (q_11, .inl (cI, 8, .inl f_12)), (q_13, .inl (cI, 8, .inl f_14))] := hD
  refine va_putF (D := D) (ci := 2) (v := .ref q21) (ty := .object "HassockSee$Sights") (C := RX2) (T := TX2) (N := 3) hx hb hts mcX2_init_X2 tyX2 tyX2_ok nmX2 hown hK.1 hP hD hS 0 rfl rfl 2 (by decide) (hts _ mwX2_init_12) (fun _ h9 => h9) rfl hin rfl (by decide +kernel) rfl rfl (Nat.le_of_ble_eq_true rfl) dX2_init_28 (fun H locs hP hD hS => ?_)
  have hP : va_P D vwCl [(h_this, .inr (2, [.int (0 : Int32), .ref q10, .ref q21])), (q10, .inr (1, [.int g_1, .int g_2, .int g_3, .ref q_4, .ref q_6, .ref q_8])), (q_4, .inl (cI, 10, .inl f_5)), (q_6, .inl (cI, 10, .inl f_7)), (q_8, .inl (cI, 10, .inl f_9)), (q21, .inr (4, [.int g_10, .ref q_11, .ref q_13])), (q_11, .inl (cI, 8, .inl f_12)), (q_13, .inl (cI, 8, .inl f_14))] H := hP
  have hD : va_D A [(h_this, .inr (2, [.int (0 : Int32), .ref q10, .ref q21])), (q10, .inr (1, [.int g_1, .int g_2, .int g_3, .ref q_4, .ref q_6, .ref q_8])), (q_4, .inl (cI, 10, .inl f_5)), (q_6, .inl (cI, 10, .inl f_7)), (q_8, .inl (cI, 10, .inl f_9)), (q21, .inr (4, [.int g_10, .ref q_11, .ref q_13])), (q_11, .inl (cI, 8, .inl f_12)), (q_13, .inl (cI, 8, .inl f_14))] := hD
  exact W.vret hx hb hr (fun t ht hW => ⟨⟨(q10, q_4, q_6, q_8, q21, q_11, q_13, (0 : Int32), g_1, g_2, g_3, f_5, f_7, f_9, g_10, f_12, f_14), rfl, vc, QB_mk (hP.sub [0, 1, 2, 3, 4, 5, 6, 7] rfl) (hD.sub [0, 1, 2, 3, 4, 5, 6, 7] rfl rfl) ht⟩, hS.F ht⟩) hS.2.2 dX2_init_31

theorem mwX4_copyFrom_1 : Cond.fieldLink RX4 9 "HassockSee$Sights" "count" "I" ∈ wsX4_copyFrom := List.mem_of_getElem? (i := 1) rfl
theorem mwX4_copyFrom_2 : Cond.fieldLink RX4 15 "HassockSee$Sights" "sundays" "[I" ∈ wsX4_copyFrom := List.mem_of_getElem? (i := 2) rfl
theorem mwX4_copyFrom_3 : Cond.fieldLink RX4 19 "HassockSee$Sights" "felt" "[I" ∈ wsX4_copyFrom := List.mem_of_getElem? (i := 3) rfl
theorem mcX4_copyFrom_X4 : ∀ w ∈ u_ws RX4 TX4 3, w ∈ wsX4_copyFrom := fun _ h => (List.mem_cons_of_mem _ (List.mem_append_right _ h))
def KX4_copyFrom (l : Launch) (D : va_G) (cI cZ : ClassId) (P : Int32 → (Nat → Int32) → (Nat → Int32) → Int32 → (Nat → Int32) → (Nat → Int32) → Prop) (Q : Int32 → (Nat → Int32) → (Nat → Int32) → Int32 → (Nat → Int32) → (Nat → Int32) → Int32 → (Nat → Int32) → (Nat → Int32) → Prop) : Prop := ∀ (sz : Nat) (h_this h_a0 h_this_sundays h_this_felt h_a0_sundays h_a0_felt : Nat) (v_count : Int32) (v_felt : (Nat → Int32)) (v_sundays : (Nat → Int32)) (v_a0_count : Int32) (v_a0_felt : (Nat → Int32)) (v_a0_sundays : (Nat → Int32)), P v_count v_felt v_sundays v_a0_count v_a0_felt v_a0_sundays → MV l yX4_copyFrom wsX4_copyFrom ({ frames := 0, cells := 0, slots := 0, locals := 0 }) [.ref h_this, .ref h_a0] D cI cZ sz [(h_this, .inr (4, [.int v_count, .ref h_this_sundays, .ref h_this_felt])), (h_this_felt, .inl (cI, 8, .inl v_felt)), (h_this_sundays, .inl (cI, 8, .inl v_sundays)), (h_a0, .inr (4, [.int v_a0_count, .ref h_a0_sundays, .ref h_a0_felt])), (h_a0_felt, .inl (cI, 8, .inl v_a0_felt)), (h_a0_sundays, .inl (cI, 8, .inl v_a0_sundays))] (fun (u : Int32 × (Nat → Int32) × (Nat → Int32)) => Q v_count v_felt v_sundays v_a0_count v_a0_felt v_a0_sundays (u.1) (u.2.1) (u.2.2)) (fun u => [(h_this, .inr (4, [.int (u.1), .ref h_this_sundays, .ref h_this_felt])), (h_this_felt, .inl (cI, 8, .inl (u.2.1))), (h_this_sundays, .inl (cI, 8, .inl (u.2.2))), (h_a0, .inr (4, [.int v_a0_count, .ref h_a0_sundays, .ref h_a0_felt])), (h_a0_felt, .inl (cI, 8, .inl v_a0_felt)), (h_a0_sundays, .inl (cI, 8, .inl v_a0_sundays))]) 0 0
set_option maxHeartbeats 4000000 in
set_option maxRecDepth 100000 in
theorem walkX4_copyFrom {l : Launch} {D : va_G} {cI cZ : ClassId} {PX4_copyFrom : Int32 → (Nat → Int32) → (Nat → Int32) → Int32 → (Nat → Int32) → (Nat → Int32) → Prop} {QX4_copyFrom : Int32 → (Nat → Int32) → (Nat → Int32) → Int32 → (Nat → Int32) → (Nat → Int32) → Int32 → (Nat → Int32) → (Nat → Int32) → Prop} (IX4_copyFrom_10 : Int32 → (Nat → Int32) → (Nat → Int32) → Int32 → (Nat → Int32) → (Nat → Int32) → Nat → Int32 → Int32 → (Nat → Int32) → (Nat → Int32) → Prop) (hvc : ∀ (v_count : Int32) (v_felt : (Nat → Int32)) (v_sundays : (Nat → Int32)) (v_a0_count : Int32) (v_a0_felt : (Nat → Int32)) (v_a0_sundays : (Nat → Int32)), PX4_copyFrom v_count v_felt v_sundays v_a0_count v_a0_felt v_a0_sundays → ((∃ n0 : Nat, IX4_copyFrom_10 v_count v_felt v_sundays v_a0_count v_a0_felt v_a0_sundays n0 (0 : Int32) v_a0_count v_felt v_sundays) ∧ (∀ (n_1 : Nat) (i_2 : Int32) (f_3 : (Nat → Int32)) (f_4 : (Nat → Int32)), (IX4_copyFrom_10 v_count v_felt v_sundays v_a0_count v_a0_felt v_a0_sundays n_1 i_2 v_a0_count f_3 f_4 → (((8 : Int32) ≤ i_2 → (QX4_copyFrom v_count v_felt v_sundays v_a0_count v_a0_felt v_a0_sundays v_a0_count f_3 f_4)) ∧ (¬ (8 : Int32) ≤ i_2 → (vp_in i_2 8 ∧ (∀ x_6 : Int32, x_6 = (v_a0_sundays (i_2).toNatClampNeg) → (vp_in i_2 8 ∧ (vp_in i_2 8 ∧ (∀ x_9 : Int32, x_9 = (v_a0_felt (i_2).toNatClampNeg) → (vp_in i_2 8 ∧ (∀ x_11 : Int32, x_11 = (i_2 + (1 : Int32)) → (∃ n1 : Nat, n1 < n_1 ∧ IX4_copyFrom_10 v_count v_felt v_sundays v_a0_count v_a0_felt v_a0_sundays n1 x_11 v_a0_count (upd f_3 (i_2).toNatClampNeg x_9) (upd f_4 (i_2).toNatClampNeg x_6))))))))))))))) : KX4_copyFrom l D cI cZ PX4_copyFrom QX4_copyFrom := by
  intro sz h_this h_a0 h_this_sundays h_this_felt h_a0_sundays h_a0_felt v_count v_felt v_sundays v_a0_count v_a0_felt v_a0_sundays hpre
  have vc := hvc v_count v_felt v_sundays v_a0_count v_a0_felt v_a0_sundays hpre
  clear hvc
  refine Met.ofW (cc := cX4_copyFrom) (maxL := 3) (ret := none) (by decide) rfl ?_
  intro p e s m args below meth c s₁ B hml hv
  obtain ⟨rfl, hsz, hP, hK, hD0⟩ := hv
  have hx := B.exec
  have hb := B.bytes
  have hr := B.returns
  have hts := atoms_spec (ws := wsX4_copyFrom) B.pre
  have hown : s.vm.findClass RX4 = some m.cls := findClass_of_methodNamed B.named
  have hlocks := B.notSynchronized
  subst hsz
  have hD := hD0.self (sz := s.heap.size)
  generalize hAe : va_A [(h_this, .inr (4, [.int v_count, .ref h_this_sundays, .ref h_this_felt])), (h_this_felt, .inl (cI, 8, .inl v_felt)), (h_this_sundays, .inl (cI, 8, .inl v_sundays)), (h_a0, .inr (4, [.int v_a0_count, .ref h_a0_sundays, .ref h_a0_felt])), (h_a0_felt, .inl (cI, 8, .inl v_a0_felt)), (h_a0_sundays, .inl (cI, 8, .inl v_a0_sundays))] s.heap.size = A at hD ⊢
  have hA : ∀ q : Nat, s.heap.size ≤ q → A q := fun q h => by rw [← hAe]; exact Or.inr h
  have hS : va_S A s.heap s.heap [] := va_S.rf
  have hP : va_P D vwCl [(h_this, .inr (4, [.int v_count, .ref h_this_sundays, .ref h_this_felt])), (h_this_felt, .inl (cI, 8, .inl v_felt)), (h_this_sundays, .inl (cI, 8, .inl v_sundays)), (h_a0, .inr (4, [.int v_a0_count, .ref h_a0_sundays, .ref h_a0_felt])), (h_a0_felt, .inl (cI, 8, .inl v_a0_felt)), (h_a0_sundays, .inl (cI, 8, .inl v_a0_sundays))] s.heap := hP
  have hl := lv_entry ([.ref h_this, .ref h_a0]) (n := 3) (Nat.le_of_ble_eq_true rfl)
  rw [lg_entry_eq]
  generalize (lg_sl ([.ref h_this, .ref h_a0]) ++ List.replicate (3 - (lg_sl ([.ref h_this, .ref h_a0])).length) Slot.unset).toArray = ls at hl ⊢
  have hl : lv_has ls 3 [(0, .ref h_this), (1, .ref h_a0)] := hl
  refine lv_aload_n hx hb dX4_copyFrom_0 rfl (lv_at hl 0 rfl) ?_
  refine lv_aload_n hx hb dX4_copyFrom_1 rfl (lv_at hl 1 rfl) ?_
  refine va_get (D := D) (ci := 4) (v := .int v_a0_count) (C := RX4) (T := TX4) (N := 3) hx hb hts mcX4_copyFrom_X4 hown hK.1 hP 3 rfl rfl 0 (by decide) (hts _ mwX4_copyFrom_1) (fun _ h9 => h9) rfl dX4_copyFrom_2 ?_
  refine va_put (D := D) (ci := 4) (v := .int v_a0_count) (ty := .int) (C := RX4) (T := TX4) (N := 3) hx hb hts mcX4_copyFrom_X4 tyX4 tyX4_ok nmX4 hown hK.1 hP hD hS 0 rfl rfl 0 (by decide) (hts _ mwX4_copyFrom_1) (fun _ h9 => h9) rfl (by decide +kernel) rfl rfl (Nat.le_of_ble_eq_true rfl) dX4_copyFrom_5 (fun H locs hP hD hS => ?_)
  have hP : va_P D vwCl [(h_this, .inr (4, [.int v_a0_count, .ref h_this_sundays, .ref h_this_felt])), (h_this_felt, .inl (cI, 8, .inl v_felt)), (h_this_sundays, .inl (cI, 8, .inl v_sundays)), (h_a0, .inr (4, [.int v_a0_count, .ref h_a0_sundays, .ref h_a0_felt])), (h_a0_felt, .inl (cI, 8, .inl v_a0_felt)), (h_a0_sundays, .inl (cI, 8, .inl v_a0_sundays))] H := hP
  have hD : va_D A [(h_this, .inr (4, [.int v_a0_count, .ref h_this_sundays, .ref h_this_felt])), (h_this_felt, .inl (cI, 8, .inl v_felt)), (h_this_sundays, .inl (cI, 8, .inl v_sundays)), (h_a0, .inr (4, [.int v_a0_count, .ref h_a0_sundays, .ref h_a0_felt])), (h_a0_felt, .inl (cI, 8, .inl v_a0_felt)), (h_a0_sundays, .inl (cI, 8, .inl v_a0_sundays))] := hD
  refine lv_iconst (v := (0 : Int32)) hx hb dX4_copyFrom_8 (by decide) ?_
  refine lv_istore_n (lv' := [(2, .int (0 : Int32)), (0, .ref h_this), (1, .ref h_a0)]) hx hb dX4_copyFrom_9 rfl hl (by decide) rfl (fun ls hl => ?_)
  obtain ⟨⟨n0_1, hi0_1⟩, vc⟩ := vc
  refine kloop (V := Int32 × (Nat → Int32) × (Nat → Int32)) (I := fun n v => IX4_copyFrom_10 v_count v_felt v_sundays v_a0_count v_a0_felt v_a0_sundays n (v.1) v_a0_count (v.2.1) (v.2.2)) (wv := fun v => [(h_this, .inr (4, [.int v_a0_count, .ref h_this_sundays, .ref h_this_felt])), (h_this_felt, .inl (cI, 8, .inl (v.2.1))), (h_this_sundays, .inl (cI, 8, .inl (v.2.2))), (h_a0, .inr (4, [.int v_a0_count, .ref h_a0_sundays, .ref h_a0_felt])), (h_a0_felt, .inl (cI, 8, .inl v_a0_felt)), (h_a0_sundays, .inl (cI, 8, .inl v_a0_sundays))]) (lv := fun v => [(0, .ref h_this), (1, .ref h_a0), (2, .int (v.1))]) n0_1 ((0 : Int32), v_felt, v_sundays) hi0_1 hP hD hS (lv_sub hl [1, 2, 0] rfl) ?_
  intro n_1 v_1 hi_1 ih_1 H locs hP hD hS ls hl
  obtain ⟨i_2, f_3, f_4⟩ := v_1
  replace vc := vc n_1 i_2 f_3 f_4 hi_1
  have hP : va_P D vwCl [(h_this, .inr (4, [.int v_a0_count, .ref h_this_sundays, .ref h_this_felt])), (h_this_felt, .inl (cI, 8, .inl f_3)), (h_this_sundays, .inl (cI, 8, .inl f_4)), (h_a0, .inr (4, [.int v_a0_count, .ref h_a0_sundays, .ref h_a0_felt])), (h_a0_felt, .inl (cI, 8, .inl v_a0_felt)), (h_a0_sundays, .inl (cI, 8, .inl v_a0_sundays))] H := hP
  have hD : va_D A [(h_this, .inr (4, [.int v_a0_count, .ref h_this_sundays, .ref h_this_felt])), (h_this_felt, .inl (cI, 8, .inl f_3)), (h_this_sundays, .inl (cI, 8, .inl f_4)), (h_a0, .inr (4, [.int v_a0_count, .ref h_a0_sundays, .ref h_a0_felt])), (h_a0_felt, .inl (cI, 8, .inl v_a0_felt)), (h_a0_sundays, .inl (cI, 8, .inl v_a0_sundays))] := hD
  have hl : lv_has ls 3 [(0, .ref h_this), (1, .ref h_a0), (2, .int i_2)] := hl
  refine lv_iload_n hx hb dX4_copyFrom_10 rfl (lv_at hl 2 rfl) ?_
  refine lv_bipush (v := (8 : Int32)) hx hb dX4_copyFrom_11 (by decide) ?_
  refine lv_icmp_ge (tgt := 46) hx hb dX4_copyFrom_13 (by decide) (fun c_ => ?_) (fun c_ => ?_)
  · replace vc := vc.1 c_
    exact W.vret hx hb hr (fun t ht hW => ⟨⟨(v_a0_count, f_3, f_4), rfl, vc, QB_mk (hP.sub [0, 1, 2, 3, 4, 5] rfl) (hD.sub [0, 1, 2, 3, 4, 5] rfl rfl) ht⟩, hS.F ht⟩) hS.2.2 dX4_copyFrom_46
  · replace vc := vc.2 c_
    refine lv_aload_n hx hb dX4_copyFrom_16 rfl (lv_at hl 0 rfl) ?_
    refine va_get (D := D) (ci := 4) (v := .ref h_this_sundays) (C := RX4) (T := TX4) (N := 3) hx hb hts mcX4_copyFrom_X4 hown hK.1 hP 0 rfl rfl 1 (by decide) (hts _ mwX4_copyFrom_2) (fun _ h9 => h9) rfl dX4_copyFrom_17 ?_
    refine lv_iload_n hx hb dX4_copyFrom_20 rfl (lv_at hl 2 rfl) ?_
    refine lv_aload_n hx hb dX4_copyFrom_21 rfl (lv_at hl 1 rfl) ?_
    refine va_get (D := D) (ci := 4) (v := .ref h_a0_sundays) (C := RX4) (T := TX4) (N := 3) hx hb hts mcX4_copyFrom_X4 hown hK.1 hP 3 rfl rfl 1 (by decide) (hts _ mwX4_copyFrom_2) (fun _ h9 => h9) rfl dX4_copyFrom_22 ?_
    refine lv_iload_n hx hb dX4_copyFrom_25 rfl (lv_at hl 2 rfl) ?_
    have hi_5 := vc.1
    replace vc := vc.2
    refine va_iald hx hb hK.1 hP 5 0 rfl rfl hi_5 dX4_copyFrom_26 ?_
    refine lv_topi (fun x_6 ex_6 => ?_)
    replace vc := vc x_6 ex_6
    have hi_7 := vc.1
    replace vc := vc.2
    refine va_iast hx hb hK.1 hP hD hS 2 0 rfl rfl hi_7 dX4_copyFrom_27 (fun H locs hP hD hS => ?_)
    have hP : va_P D vwCl [(h_this, .inr (4, [.int v_a0_count, .ref h_this_sundays, .ref h_this_felt])), (h_this_felt, .inl (cI, 8, .inl f_3)), (h_this_sundays, .inl (cI, 8, .inl (upd f_4 (i_2).toNatClampNeg x_6))), (h_a0, .inr (4, [.int v_a0_count, .ref h_a0_sundays, .ref h_a0_felt])), (h_a0_felt, .inl (cI, 8, .inl v_a0_felt)), (h_a0_sundays, .inl (cI, 8, .inl v_a0_sundays))] H := hP
    have hD : va_D A [(h_this, .inr (4, [.int v_a0_count, .ref h_this_sundays, .ref h_this_felt])), (h_this_felt, .inl (cI, 8, .inl f_3)), (h_this_sundays, .inl (cI, 8, .inl (upd f_4 (i_2).toNatClampNeg x_6))), (h_a0, .inr (4, [.int v_a0_count, .ref h_a0_sundays, .ref h_a0_felt])), (h_a0_felt, .inl (cI, 8, .inl v_a0_felt)), (h_a0_sundays, .inl (cI, 8, .inl v_a0_sundays))] := hD
    refine lv_aload_n hx hb dX4_copyFrom_28 rfl (lv_at hl 0 rfl) ?_
    refine va_get (D := D) (ci := 4) (v := .ref h_this_felt) (C := RX4) (T := TX4) (N := 3) hx hb hts mcX4_copyFrom_X4 hown hK.1 hP 0 rfl rfl 2 (by decide) (hts _ mwX4_copyFrom_3) (fun _ h9 => h9) rfl dX4_copyFrom_29 ?_
    refine lv_iload_n hx hb dX4_copyFrom_32 rfl (lv_at hl 2 rfl) ?_
    refine lv_aload_n hx hb dX4_copyFrom_33 rfl (lv_at hl 1 rfl) ?_
    refine va_get (D := D) (ci := 4) (v := .ref h_a0_felt) (C := RX4) (T := TX4) (N := 3) hx hb hts mcX4_copyFrom_X4 hown hK.1 hP 3 rfl rfl 2 (by decide) (hts _ mwX4_copyFrom_3) (fun _ h9 => h9) rfl dX4_copyFrom_34 ?_
    refine lv_iload_n hx hb dX4_copyFrom_37 rfl (lv_at hl 2 rfl) ?_
    have hi_8 := vc.1
    replace vc := vc.2
    refine va_iald hx hb hK.1 hP 4 0 rfl rfl hi_8 dX4_copyFrom_38 ?_
    refine lv_topi (fun x_9 ex_9 => ?_)
    replace vc := vc x_9 ex_9
    have hi_10 := vc.1
    replace vc := vc.2
    refine va_iast hx hb hK.1 hP hD hS 1 0 rfl rfl hi_10 dX4_copyFrom_39 (fun H locs hP hD hS => ?_)
    have hP : va_P D vwCl [(h_this, .inr (4, [.int v_a0_count, .ref h_this_sundays, .ref h_this_felt])), (h_this_felt, .inl (cI, 8, .inl (upd f_3 (i_2).toNatClampNeg x_9))), (h_this_sundays, .inl (cI, 8, .inl (upd f_4 (i_2).toNatClampNeg x_6))), (h_a0, .inr (4, [.int v_a0_count, .ref h_a0_sundays, .ref h_a0_felt])), (h_a0_felt, .inl (cI, 8, .inl v_a0_felt)), (h_a0_sundays, .inl (cI, 8, .inl v_a0_sundays))] H := hP
    have hD : va_D A [(h_this, .inr (4, [.int v_a0_count, .ref h_this_sundays, .ref h_this_felt])), (h_this_felt, .inl (cI, 8, .inl (upd f_3 (i_2).toNatClampNeg x_9))), (h_this_sundays, .inl (cI, 8, .inl (upd f_4 (i_2).toNatClampNeg x_6))), (h_a0, .inr (4, [.int v_a0_count, .ref h_a0_sundays, .ref h_a0_felt])), (h_a0_felt, .inl (cI, 8, .inl v_a0_felt)), (h_a0_sundays, .inl (cI, 8, .inl v_a0_sundays))] := hD
    obtain ⟨x_11, ex_11⟩ : ∃ y_ : Int32, y_ = (i_2 + (1 : Int32)) := ⟨_, rfl⟩
    replace vc := vc x_11 ex_11
    refine lv_iinc (v := x_11) (lv' := [(2, .int x_11), (0, .ref h_this), (1, .ref h_a0)]) hx hb dX4_copyFrom_40 hl (k := 2) rfl (by rw [ex_11]; rfl) (by decide) rfl (fun ls hl => ?_)
    refine lv_goto (tgt := 10) hx hb dX4_copyFrom_43 (by decide) ?_
    obtain ⟨n1_, hlt_, hi_⟩ := vc
    exact ih_1 n1_ (x_11, (upd f_3 (i_2).toNatClampNeg x_9), (upd f_4 (i_2).toNatClampNeg x_6)) hlt_ hi_ _ _ hP hD hS ls (lv_sub hl [1, 2, 0] rfl)

theorem mwX2_keep_1 : Cond.fieldLink RX2 16 "HassockSee$Image" "diocese" "LHassockSee$Diocese;" ∈ wsX2_keep := List.mem_of_getElem? (i := 1) rfl
theorem mwX2_keep_2 : Cond.fieldLink RX2 23 "HassockSee$Image" "sights" "LHassockSee$Sights;" ∈ wsX2_keep := List.mem_of_getElem? (i := 2) rfl
theorem mwX2_keep_3 : Cond.fieldLink RX2 7 "HassockSee$Image" "kept" "Z" ∈ wsX2_keep := List.mem_of_getElem? (i := 3) rfl
theorem mcX2_keep_X2 : ∀ w ∈ u_ws RX2 TX2 3, w ∈ wsX2_keep := fun _ h => (List.mem_cons_of_mem _ (List.mem_append_left _ (List.mem_append_left _ (List.mem_append_right _ h))))
def KX2_keep (l : Launch) (D : va_G) (cI cZ : ClassId) (P : Int32 → Int32 → Int32 → Int32 → (Nat → Int32) → (Nat → Int32) → (Nat → Int32) → Int32 → (Nat → Int32) → (Nat → Int32) → Int32 → Int32 → Int32 → (Nat → Int32) → (Nat → Int32) → (Nat → Int32) → Int32 → (Nat → Int32) → (Nat → Int32) → Prop) (Q : Int32 → Int32 → Int32 → Int32 → (Nat → Int32) → (Nat → Int32) → (Nat → Int32) → Int32 → (Nat → Int32) → (Nat → Int32) → Int32 → Int32 → Int32 → (Nat → Int32) → (Nat → Int32) → (Nat → Int32) → Int32 → (Nat → Int32) → (Nat → Int32) → Int32 → Int32 → Int32 → Int32 → (Nat → Int32) → (Nat → Int32) → (Nat → Int32) → Int32 → (Nat → Int32) → (Nat → Int32) → Prop) : Prop := ∀ (sz : Nat) (h_this h_a0 h_a1 h_this_diocese h_this_sights h_this_diocese_wool h_this_diocese_stitches h_this_diocese_place h_this_sights_sundays h_this_sights_felt h_a0_wool h_a0_stitches h_a0_place h_a1_sundays h_a1_felt : Nat) (v_kept : Int32) (v_diocese_there : Int32) (v_diocese_hair : Int32) (v_diocese_year : Int32) (v_diocese_place : (Nat → Int32)) (v_diocese_stitches : (Nat → Int32)) (v_diocese_wool : (Nat → Int32)) (v_sights_count : Int32) (v_sights_felt : (Nat → Int32)) (v_sights_sundays : (Nat → Int32)) (v_a0_there : Int32) (v_a0_hair : Int32) (v_a0_year : Int32) (v_a0_place : (Nat → Int32)) (v_a0_stitches : (Nat → Int32)) (v_a0_wool : (Nat → Int32)) (v_a1_count : Int32) (v_a1_felt : (Nat → Int32)) (v_a1_sundays : (Nat → Int32)), P v_kept v_diocese_there v_diocese_hair v_diocese_year v_diocese_place v_diocese_stitches v_diocese_wool v_sights_count v_sights_felt v_sights_sundays v_a0_there v_a0_hair v_a0_year v_a0_place v_a0_stitches v_a0_wool v_a1_count v_a1_felt v_a1_sundays → MV l yX2_keep wsX2_keep ({ frames := 1, cells := 0, slots := 0, locals := 22 }) [.ref h_this, .ref h_a0, .ref h_a1] D cI cZ sz [(h_this, .inr (2, [.int v_kept, .ref h_this_diocese, .ref h_this_sights])), (h_this_diocese, .inr (1, [.int v_diocese_there, .int v_diocese_hair, .int v_diocese_year, .ref h_this_diocese_wool, .ref h_this_diocese_stitches, .ref h_this_diocese_place])), (h_this_diocese_place, .inl (cI, 10, .inl v_diocese_place)), (h_this_diocese_stitches, .inl (cI, 10, .inl v_diocese_stitches)), (h_this_diocese_wool, .inl (cI, 10, .inl v_diocese_wool)), (h_this_sights, .inr (4, [.int v_sights_count, .ref h_this_sights_sundays, .ref h_this_sights_felt])), (h_this_sights_felt, .inl (cI, 8, .inl v_sights_felt)), (h_this_sights_sundays, .inl (cI, 8, .inl v_sights_sundays)), (h_a0, .inr (1, [.int v_a0_there, .int v_a0_hair, .int v_a0_year, .ref h_a0_wool, .ref h_a0_stitches, .ref h_a0_place])), (h_a0_place, .inl (cI, 10, .inl v_a0_place)), (h_a0_stitches, .inl (cI, 10, .inl v_a0_stitches)), (h_a0_wool, .inl (cI, 10, .inl v_a0_wool)), (h_a1, .inr (4, [.int v_a1_count, .ref h_a1_sundays, .ref h_a1_felt])), (h_a1_felt, .inl (cI, 8, .inl v_a1_felt)), (h_a1_sundays, .inl (cI, 8, .inl v_a1_sundays))] (fun (u : Int32 × Int32 × Int32 × Int32 × (Nat → Int32) × (Nat → Int32) × (Nat → Int32) × Int32 × (Nat → Int32) × (Nat → Int32)) => Q v_kept v_diocese_there v_diocese_hair v_diocese_year v_diocese_place v_diocese_stitches v_diocese_wool v_sights_count v_sights_felt v_sights_sundays v_a0_there v_a0_hair v_a0_year v_a0_place v_a0_stitches v_a0_wool v_a1_count v_a1_felt v_a1_sundays (u.1) (u.2.1) (u.2.2.1) (u.2.2.2.1) (u.2.2.2.2.1) (u.2.2.2.2.2.1) (u.2.2.2.2.2.2.1) (u.2.2.2.2.2.2.2.1) (u.2.2.2.2.2.2.2.2.1) (u.2.2.2.2.2.2.2.2.2)) (fun u => [(h_this, .inr (2, [.int (u.1), .ref h_this_diocese, .ref h_this_sights])), (h_this_diocese, .inr (1, [.int (u.2.1), .int (u.2.2.1), .int (u.2.2.2.1), .ref h_this_diocese_wool, .ref h_this_diocese_stitches, .ref h_this_diocese_place])), (h_this_diocese_place, .inl (cI, 10, .inl (u.2.2.2.2.1))), (h_this_diocese_stitches, .inl (cI, 10, .inl (u.2.2.2.2.2.1))), (h_this_diocese_wool, .inl (cI, 10, .inl (u.2.2.2.2.2.2.1))), (h_this_sights, .inr (4, [.int (u.2.2.2.2.2.2.2.1), .ref h_this_sights_sundays, .ref h_this_sights_felt])), (h_this_sights_felt, .inl (cI, 8, .inl (u.2.2.2.2.2.2.2.2.1))), (h_this_sights_sundays, .inl (cI, 8, .inl (u.2.2.2.2.2.2.2.2.2))), (h_a0, .inr (1, [.int v_a0_there, .int v_a0_hair, .int v_a0_year, .ref h_a0_wool, .ref h_a0_stitches, .ref h_a0_place])), (h_a0_place, .inl (cI, 10, .inl v_a0_place)), (h_a0_stitches, .inl (cI, 10, .inl v_a0_stitches)), (h_a0_wool, .inl (cI, 10, .inl v_a0_wool)), (h_a1, .inr (4, [.int v_a1_count, .ref h_a1_sundays, .ref h_a1_felt])), (h_a1_felt, .inl (cI, 8, .inl v_a1_felt)), (h_a1_sundays, .inl (cI, 8, .inl v_a1_sundays))]) 0 0
set_option maxHeartbeats 4000000 in
set_option maxRecDepth 100000 in
theorem walkX2_keep {l : Launch} {D : va_G} {cI cZ : ClassId} {PX2_keep : Int32 → Int32 → Int32 → Int32 → (Nat → Int32) → (Nat → Int32) → (Nat → Int32) → Int32 → (Nat → Int32) → (Nat → Int32) → Int32 → Int32 → Int32 → (Nat → Int32) → (Nat → Int32) → (Nat → Int32) → Int32 → (Nat → Int32) → (Nat → Int32) → Prop} {QX2_keep : Int32 → Int32 → Int32 → Int32 → (Nat → Int32) → (Nat → Int32) → (Nat → Int32) → Int32 → (Nat → Int32) → (Nat → Int32) → Int32 → Int32 → Int32 → (Nat → Int32) → (Nat → Int32) → (Nat → Int32) → Int32 → (Nat → Int32) → (Nat → Int32) → Int32 → Int32 → Int32 → Int32 → (Nat → Int32) → (Nat → Int32) → (Nat → Int32) → Int32 → (Nat → Int32) → (Nat → Int32) → Prop} {PX1_copyFrom : Int32 → Int32 → Int32 → (Nat → Int32) → (Nat → Int32) → (Nat → Int32) → Int32 → Int32 → Int32 → (Nat → Int32) → (Nat → Int32) → (Nat → Int32) → Prop} {QX1_copyFrom : Int32 → Int32 → Int32 → (Nat → Int32) → (Nat → Int32) → (Nat → Int32) → Int32 → Int32 → Int32 → (Nat → Int32) → (Nat → Int32) → (Nat → Int32) → Int32 → Int32 → Int32 → (Nat → Int32) → (Nat → Int32) → (Nat → Int32) → Prop} {PX4_copyFrom : Int32 → (Nat → Int32) → (Nat → Int32) → Int32 → (Nat → Int32) → (Nat → Int32) → Prop} {QX4_copyFrom : Int32 → (Nat → Int32) → (Nat → Int32) → Int32 → (Nat → Int32) → (Nat → Int32) → Int32 → (Nat → Int32) → (Nat → Int32) → Prop} (kX1_copyFrom : KX1_copyFrom l D cI cZ PX1_copyFrom QX1_copyFrom) (kX4_copyFrom : KX4_copyFrom l D cI cZ PX4_copyFrom QX4_copyFrom) (hvc : ∀ (v_kept : Int32) (v_diocese_there : Int32) (v_diocese_hair : Int32) (v_diocese_year : Int32) (v_diocese_place : (Nat → Int32)) (v_diocese_stitches : (Nat → Int32)) (v_diocese_wool : (Nat → Int32)) (v_sights_count : Int32) (v_sights_felt : (Nat → Int32)) (v_sights_sundays : (Nat → Int32)) (v_a0_there : Int32) (v_a0_hair : Int32) (v_a0_year : Int32) (v_a0_place : (Nat → Int32)) (v_a0_stitches : (Nat → Int32)) (v_a0_wool : (Nat → Int32)) (v_a1_count : Int32) (v_a1_felt : (Nat → Int32)) (v_a1_sundays : (Nat → Int32)), PX2_keep v_kept v_diocese_there v_diocese_hair v_diocese_year v_diocese_place v_diocese_stitches v_diocese_wool v_sights_count v_sights_felt v_sights_sundays v_a0_there v_a0_hair v_a0_year v_a0_place v_a0_stitches v_a0_wool v_a1_count v_a1_felt v_a1_sundays → (PX1_copyFrom v_diocese_there v_diocese_hair v_diocese_year v_diocese_place v_diocese_stitches v_diocese_wool v_a0_there v_a0_hair v_a0_year v_a0_place v_a0_stitches v_a0_wool ∧ (∀ (g_1 : Int32) (g_2 : Int32) (g_3 : Int32) (f_4 : (Nat → Int32)) (f_5 : (Nat → Int32)) (f_6 : (Nat → Int32)), QX1_copyFrom v_diocese_there v_diocese_hair v_diocese_year v_diocese_place v_diocese_stitches v_diocese_wool v_a0_there v_a0_hair v_a0_year v_a0_place v_a0_stitches v_a0_wool g_1 g_2 g_3 f_4 f_5 f_6 → (PX4_copyFrom v_sights_count v_sights_felt v_sights_sundays v_a1_count v_a1_felt v_a1_sundays ∧ (∀ (g_7 : Int32) (f_8 : (Nat → Int32)) (f_9 : (Nat → Int32)), QX4_copyFrom v_sights_count v_sights_felt v_sights_sundays v_a1_count v_a1_felt v_a1_sundays g_7 f_8 f_9 → (QX2_keep v_kept v_diocese_there v_diocese_hair v_diocese_year v_diocese_place v_diocese_stitches v_diocese_wool v_sights_count v_sights_felt v_sights_sundays v_a0_there v_a0_hair v_a0_year v_a0_place v_a0_stitches v_a0_wool v_a1_count v_a1_felt v_a1_sundays (1 : Int32) g_1 g_2 g_3 f_4 f_5 f_6 g_7 f_8 f_9)))))) : KX2_keep l D cI cZ PX2_keep QX2_keep := by
  intro sz h_this h_a0 h_a1 h_this_diocese h_this_sights h_this_diocese_wool h_this_diocese_stitches h_this_diocese_place h_this_sights_sundays h_this_sights_felt h_a0_wool h_a0_stitches h_a0_place h_a1_sundays h_a1_felt v_kept v_diocese_there v_diocese_hair v_diocese_year v_diocese_place v_diocese_stitches v_diocese_wool v_sights_count v_sights_felt v_sights_sundays v_a0_there v_a0_hair v_a0_year v_a0_place v_a0_stitches v_a0_wool v_a1_count v_a1_felt v_a1_sundays hpre
  have vc := hvc v_kept v_diocese_there v_diocese_hair v_diocese_year v_diocese_place v_diocese_stitches v_diocese_wool v_sights_count v_sights_felt v_sights_sundays v_a0_there v_a0_hair v_a0_year v_a0_place v_a0_stitches v_a0_wool v_a1_count v_a1_felt v_a1_sundays hpre
  clear hvc
  refine Met.ofW (cc := cX2_keep) (maxL := 3) (ret := none) (by decide) rfl ?_
  intro p e s m args below meth c s₁ B hml hv
  obtain ⟨rfl, hsz, hP, hK, hD0⟩ := hv
  have hx := B.exec
  have hb := B.bytes
  have hr := B.returns
  have hts := atoms_spec (ws := wsX2_keep) B.pre
  have hown : s.vm.findClass RX2 = some m.cls := findClass_of_methodNamed B.named
  have hlocks := B.notSynchronized
  subst hsz
  have hD := hD0.self (sz := s.heap.size)
  generalize hAe : va_A [(h_this, .inr (2, [.int v_kept, .ref h_this_diocese, .ref h_this_sights])), (h_this_diocese, .inr (1, [.int v_diocese_there, .int v_diocese_hair, .int v_diocese_year, .ref h_this_diocese_wool, .ref h_this_diocese_stitches, .ref h_this_diocese_place])), (h_this_diocese_place, .inl (cI, 10, .inl v_diocese_place)), (h_this_diocese_stitches, .inl (cI, 10, .inl v_diocese_stitches)), (h_this_diocese_wool, .inl (cI, 10, .inl v_diocese_wool)), (h_this_sights, .inr (4, [.int v_sights_count, .ref h_this_sights_sundays, .ref h_this_sights_felt])), (h_this_sights_felt, .inl (cI, 8, .inl v_sights_felt)), (h_this_sights_sundays, .inl (cI, 8, .inl v_sights_sundays)), (h_a0, .inr (1, [.int v_a0_there, .int v_a0_hair, .int v_a0_year, .ref h_a0_wool, .ref h_a0_stitches, .ref h_a0_place])), (h_a0_place, .inl (cI, 10, .inl v_a0_place)), (h_a0_stitches, .inl (cI, 10, .inl v_a0_stitches)), (h_a0_wool, .inl (cI, 10, .inl v_a0_wool)), (h_a1, .inr (4, [.int v_a1_count, .ref h_a1_sundays, .ref h_a1_felt])), (h_a1_felt, .inl (cI, 8, .inl v_a1_felt)), (h_a1_sundays, .inl (cI, 8, .inl v_a1_sundays))] s.heap.size = A at hD ⊢
  have hA : ∀ q : Nat, s.heap.size ≤ q → A q := fun q h => by rw [← hAe]; exact Or.inr h
  have hS : va_S A s.heap s.heap [] := va_S.rf
  have hP : va_P D vwCl [(h_this, .inr (2, [.int v_kept, .ref h_this_diocese, .ref h_this_sights])), (h_this_diocese, .inr (1, [.int v_diocese_there, .int v_diocese_hair, .int v_diocese_year, .ref h_this_diocese_wool, .ref h_this_diocese_stitches, .ref h_this_diocese_place])), (h_this_diocese_place, .inl (cI, 10, .inl v_diocese_place)), (h_this_diocese_stitches, .inl (cI, 10, .inl v_diocese_stitches)), (h_this_diocese_wool, .inl (cI, 10, .inl v_diocese_wool)), (h_this_sights, .inr (4, [.int v_sights_count, .ref h_this_sights_sundays, .ref h_this_sights_felt])), (h_this_sights_felt, .inl (cI, 8, .inl v_sights_felt)), (h_this_sights_sundays, .inl (cI, 8, .inl v_sights_sundays)), (h_a0, .inr (1, [.int v_a0_there, .int v_a0_hair, .int v_a0_year, .ref h_a0_wool, .ref h_a0_stitches, .ref h_a0_place])), (h_a0_place, .inl (cI, 10, .inl v_a0_place)), (h_a0_stitches, .inl (cI, 10, .inl v_a0_stitches)), (h_a0_wool, .inl (cI, 10, .inl v_a0_wool)), (h_a1, .inr (4, [.int v_a1_count, .ref h_a1_sundays, .ref h_a1_felt])), (h_a1_felt, .inl (cI, 8, .inl v_a1_felt)), (h_a1_sundays, .inl (cI, 8, .inl v_a1_sundays))] s.heap := hP
  have hl := lv_entry ([.ref h_this, .ref h_a0, .ref h_a1]) (n := 3) (Nat.le_of_ble_eq_true rfl)
  rw [lg_entry_eq]
  generalize (lg_sl ([.ref h_this, .ref h_a0, .ref h_a1]) ++ List.replicate (3 - (lg_sl ([.ref h_this, .ref h_a0, .ref h_a1])).length) Slot.unset).toArray = ls at hl ⊢
  have hl : lv_has ls 3 [(0, .ref h_this), (1, .ref h_a0), (2, .ref h_a1)] := hl
  refine lv_aload_n hx hb dX2_keep_0 rfl (lv_at hl 0 rfl) ?_
  refine va_get (D := D) (ci := 2) (v := .ref h_this_diocese) (C := RX2) (T := TX2) (N := 3) hx hb hts mcX2_keep_X2 hown hK.1 hP 0 rfl rfl 1 (by decide) (hts _ mwX2_keep_1) (fun _ h9 => h9) rfl dX2_keep_1 ?_
  refine lv_aload_n hx hb dX2_keep_4 rfl (lv_at hl 1 rfl) ?_
  refine kj_v (wr := [(h_this, .inr (2, [.int v_kept, .ref h_this_diocese, .ref h_this_sights])), (h_this_sights, .inr (4, [.int v_sights_count, .ref h_this_sights_sundays, .ref h_this_sights_felt])), (h_this_sights_felt, .inl (cI, 8, .inl v_sights_felt)), (h_this_sights_sundays, .inl (cI, 8, .inl v_sights_sundays)), (h_a1, .inr (4, [.int v_a1_count, .ref h_a1_sundays, .ref h_a1_felt])), (h_a1_felt, .inl (cI, 8, .inl v_a1_felt)), (h_a1_sundays, .inl (cI, 8, .inl v_a1_sundays))]) (rest := []) (kV ⟨hx, hb, hml, hown, hts⟩ (kX1_copyFrom _ h_this_diocese h_a0 h_this_diocese_wool h_this_diocese_stitches h_this_diocese_place h_a0_wool h_a0_stitches h_a0_place v_diocese_there v_diocese_hair v_diocese_year v_diocese_place v_diocese_stitches v_diocese_wool v_a0_there v_a0_hair v_a0_year v_a0_place v_a0_stitches v_a0_wool vc.1) (cwV 1 hts gX2_keep_X1_copyFrom rfl rfl rfl (by decide +kernel) ⟨(Nat.le_of_ble_eq_true rfl), (Nat.le_of_ble_eq_true rfl)⟩) hK hP hD [1, 2, 3, 4, 8, 9, 10, 11] rfl rfl 0 1 rfl rfl rfl rfl rfl hl.1 (Nat.le_of_ble_eq_true rfl) dX2_keep_5 ⟨(Nat.le_of_ble_eq_true rfl), (Nat.le_of_ble_eq_true rfl)⟩) hP hD hS hA [1, 2, 3, 4, 8, 9, 10, 11] [0, 5, 6, 7, 12, 13, 14] rfl rfl rfl rfl (fun u_ H locs hq_ hP hD hS => ?_)
  obtain ⟨g_1, g_2, g_3, f_4, f_5, f_6⟩ := u_
  replace vc := vc.2  g_1 g_2 g_3 f_4 f_5 f_6 hq_
  refine W.widen (k := 0) (n := 0) (Nat.le_of_ble_eq_true rfl) (Nat.le_of_ble_eq_true rfl) ?_
  have hP : va_P D vwCl [(h_this, .inr (2, [.int v_kept, .ref h_this_diocese, .ref h_this_sights])), (h_this_sights, .inr (4, [.int v_sights_count, .ref h_this_sights_sundays, .ref h_this_sights_felt])), (h_this_sights_felt, .inl (cI, 8, .inl v_sights_felt)), (h_this_sights_sundays, .inl (cI, 8, .inl v_sights_sundays)), (h_a1, .inr (4, [.int v_a1_count, .ref h_a1_sundays, .ref h_a1_felt])), (h_a1_felt, .inl (cI, 8, .inl v_a1_felt)), (h_a1_sundays, .inl (cI, 8, .inl v_a1_sundays)), (h_this_diocese, .inr (1, [.int g_1, .int g_2, .int g_3, .ref h_this_diocese_wool, .ref h_this_diocese_stitches, .ref h_this_diocese_place])), (h_this_diocese_place, .inl (cI, 10, .inl f_4)), (h_this_diocese_stitches, .inl (cI, 10, .inl f_5)), (h_this_diocese_wool, .inl (cI, 10, .inl f_6)), (h_a0, .inr (1, [.int v_a0_there, .int v_a0_hair, .int v_a0_year, .ref h_a0_wool, .ref h_a0_stitches, .ref h_a0_place])), (h_a0_place, .inl (cI, 10, .inl v_a0_place)), (h_a0_stitches, .inl (cI, 10, .inl v_a0_stitches)), (h_a0_wool, .inl (cI, 10, .inl v_a0_wool))] H := hP
  have hD : va_D A [(h_this, .inr (2, [.int v_kept, .ref h_this_diocese, .ref h_this_sights])), (h_this_sights, .inr (4, [.int v_sights_count, .ref h_this_sights_sundays, .ref h_this_sights_felt])), (h_this_sights_felt, .inl (cI, 8, .inl v_sights_felt)), (h_this_sights_sundays, .inl (cI, 8, .inl v_sights_sundays)), (h_a1, .inr (4, [.int v_a1_count, .ref h_a1_sundays, .ref h_a1_felt])), (h_a1_felt, .inl (cI, 8, .inl v_a1_felt)), (h_a1_sundays, .inl (cI, 8, .inl v_a1_sundays)), (h_this_diocese, .inr (1, [.int g_1, .int g_2, .int g_3, .ref h_this_diocese_wool, .ref h_this_diocese_stitches, .ref h_this_diocese_place])), (h_this_diocese_place, .inl (cI, 10, .inl f_4)), (h_this_diocese_stitches, .inl (cI, 10, .inl f_5)), (h_this_diocese_wool, .inl (cI, 10, .inl f_6)), (h_a0, .inr (1, [.int v_a0_there, .int v_a0_hair, .int v_a0_year, .ref h_a0_wool, .ref h_a0_stitches, .ref h_a0_place])), (h_a0_place, .inl (cI, 10, .inl v_a0_place)), (h_a0_stitches, .inl (cI, 10, .inl v_a0_stitches)), (h_a0_wool, .inl (cI, 10, .inl v_a0_wool))] := hD
  refine lv_aload_n hx hb dX2_keep_8 rfl (lv_at hl 0 rfl) ?_
  refine va_get (D := D) (ci := 2) (v := .ref h_this_sights) (C := RX2) (T := TX2) (N := 3) hx hb hts mcX2_keep_X2 hown hK.1 hP 0 rfl rfl 2 (by decide) (hts _ mwX2_keep_2) (fun _ h9 => h9) rfl dX2_keep_9 ?_
  refine lv_aload_n hx hb dX2_keep_12 rfl (lv_at hl 2 rfl) ?_
  refine kj_v (wr := [(h_this, .inr (2, [.int v_kept, .ref h_this_diocese, .ref h_this_sights])), (h_this_diocese, .inr (1, [.int g_1, .int g_2, .int g_3, .ref h_this_diocese_wool, .ref h_this_diocese_stitches, .ref h_this_diocese_place])), (h_this_diocese_place, .inl (cI, 10, .inl f_4)), (h_this_diocese_stitches, .inl (cI, 10, .inl f_5)), (h_this_diocese_wool, .inl (cI, 10, .inl f_6)), (h_a0, .inr (1, [.int v_a0_there, .int v_a0_hair, .int v_a0_year, .ref h_a0_wool, .ref h_a0_stitches, .ref h_a0_place])), (h_a0_place, .inl (cI, 10, .inl v_a0_place)), (h_a0_stitches, .inl (cI, 10, .inl v_a0_stitches)), (h_a0_wool, .inl (cI, 10, .inl v_a0_wool))]) (rest := []) (kV ⟨hx, hb, hml, hown, hts⟩ (kX4_copyFrom _ h_this_sights h_a1 h_this_sights_sundays h_this_sights_felt h_a1_sundays h_a1_felt v_sights_count v_sights_felt v_sights_sundays v_a1_count v_a1_felt v_a1_sundays vc.1) (cwV 1 hts gX2_keep_X4_copyFrom rfl rfl rfl (by decide +kernel) ⟨(Nat.le_of_ble_eq_true rfl), (Nat.le_of_ble_eq_true rfl)⟩) hK hP hD [1, 2, 3, 4, 5, 6] rfl rfl 0 4 rfl rfl rfl rfl rfl hl.1 (Nat.le_of_ble_eq_true rfl) dX2_keep_13 ⟨(Nat.le_of_ble_eq_true rfl), (Nat.le_of_ble_eq_true rfl)⟩) hP hD hS hA [1, 2, 3, 4, 5, 6] [0, 7, 8, 9, 10, 11, 12, 13, 14] rfl rfl rfl rfl (fun u_ H locs hq_ hP hD hS => ?_)
  obtain ⟨g_7, f_8, f_9⟩ := u_
  replace vc := vc.2  g_7 f_8 f_9 hq_
  refine W.widen (k := 0) (n := 0) (Nat.le_of_ble_eq_true rfl) (Nat.le_of_ble_eq_true rfl) ?_
  have hP : va_P D vwCl [(h_this, .inr (2, [.int v_kept, .ref h_this_diocese, .ref h_this_sights])), (h_this_diocese, .inr (1, [.int g_1, .int g_2, .int g_3, .ref h_this_diocese_wool, .ref h_this_diocese_stitches, .ref h_this_diocese_place])), (h_this_diocese_place, .inl (cI, 10, .inl f_4)), (h_this_diocese_stitches, .inl (cI, 10, .inl f_5)), (h_this_diocese_wool, .inl (cI, 10, .inl f_6)), (h_a0, .inr (1, [.int v_a0_there, .int v_a0_hair, .int v_a0_year, .ref h_a0_wool, .ref h_a0_stitches, .ref h_a0_place])), (h_a0_place, .inl (cI, 10, .inl v_a0_place)), (h_a0_stitches, .inl (cI, 10, .inl v_a0_stitches)), (h_a0_wool, .inl (cI, 10, .inl v_a0_wool)), (h_this_sights, .inr (4, [.int g_7, .ref h_this_sights_sundays, .ref h_this_sights_felt])), (h_this_sights_felt, .inl (cI, 8, .inl f_8)), (h_this_sights_sundays, .inl (cI, 8, .inl f_9)), (h_a1, .inr (4, [.int v_a1_count, .ref h_a1_sundays, .ref h_a1_felt])), (h_a1_felt, .inl (cI, 8, .inl v_a1_felt)), (h_a1_sundays, .inl (cI, 8, .inl v_a1_sundays))] H := hP
  have hD : va_D A [(h_this, .inr (2, [.int v_kept, .ref h_this_diocese, .ref h_this_sights])), (h_this_diocese, .inr (1, [.int g_1, .int g_2, .int g_3, .ref h_this_diocese_wool, .ref h_this_diocese_stitches, .ref h_this_diocese_place])), (h_this_diocese_place, .inl (cI, 10, .inl f_4)), (h_this_diocese_stitches, .inl (cI, 10, .inl f_5)), (h_this_diocese_wool, .inl (cI, 10, .inl f_6)), (h_a0, .inr (1, [.int v_a0_there, .int v_a0_hair, .int v_a0_year, .ref h_a0_wool, .ref h_a0_stitches, .ref h_a0_place])), (h_a0_place, .inl (cI, 10, .inl v_a0_place)), (h_a0_stitches, .inl (cI, 10, .inl v_a0_stitches)), (h_a0_wool, .inl (cI, 10, .inl v_a0_wool)), (h_this_sights, .inr (4, [.int g_7, .ref h_this_sights_sundays, .ref h_this_sights_felt])), (h_this_sights_felt, .inl (cI, 8, .inl f_8)), (h_this_sights_sundays, .inl (cI, 8, .inl f_9)), (h_a1, .inr (4, [.int v_a1_count, .ref h_a1_sundays, .ref h_a1_felt])), (h_a1_felt, .inl (cI, 8, .inl v_a1_felt)), (h_a1_sundays, .inl (cI, 8, .inl v_a1_sundays))] := hD
  refine lv_aload_n hx hb dX2_keep_16 rfl (lv_at hl 0 rfl) ?_
  refine lv_iconst (v := (1 : Int32)) hx hb dX2_keep_17 (by decide) ?_
  refine va_put (D := D) (ci := 2) (v := .int (1 : Int32)) (ty := .boolean) (C := RX2) (T := TX2) (N := 3) hx hb hts mcX2_keep_X2 tyX2 tyX2_ok nmX2 hown hK.1 hP hD hS 0 rfl rfl 0 (by decide) (hts _ mwX2_keep_3) (fun _ h9 => h9) rfl (by decide +kernel) rfl rfl (Nat.le_of_ble_eq_true rfl) dX2_keep_18 (fun H locs hP hD hS => ?_)
  have hP : va_P D vwCl [(h_this, .inr (2, [.int (1 : Int32), .ref h_this_diocese, .ref h_this_sights])), (h_this_diocese, .inr (1, [.int g_1, .int g_2, .int g_3, .ref h_this_diocese_wool, .ref h_this_diocese_stitches, .ref h_this_diocese_place])), (h_this_diocese_place, .inl (cI, 10, .inl f_4)), (h_this_diocese_stitches, .inl (cI, 10, .inl f_5)), (h_this_diocese_wool, .inl (cI, 10, .inl f_6)), (h_a0, .inr (1, [.int v_a0_there, .int v_a0_hair, .int v_a0_year, .ref h_a0_wool, .ref h_a0_stitches, .ref h_a0_place])), (h_a0_place, .inl (cI, 10, .inl v_a0_place)), (h_a0_stitches, .inl (cI, 10, .inl v_a0_stitches)), (h_a0_wool, .inl (cI, 10, .inl v_a0_wool)), (h_this_sights, .inr (4, [.int g_7, .ref h_this_sights_sundays, .ref h_this_sights_felt])), (h_this_sights_felt, .inl (cI, 8, .inl f_8)), (h_this_sights_sundays, .inl (cI, 8, .inl f_9)), (h_a1, .inr (4, [.int v_a1_count, .ref h_a1_sundays, .ref h_a1_felt])), (h_a1_felt, .inl (cI, 8, .inl v_a1_felt)), (h_a1_sundays, .inl (cI, 8, .inl v_a1_sundays))] H := hP
  have hD : va_D A [(h_this, .inr (2, [.int (1 : Int32), .ref h_this_diocese, .ref h_this_sights])), (h_this_diocese, .inr (1, [.int g_1, .int g_2, .int g_3, .ref h_this_diocese_wool, .ref h_this_diocese_stitches, .ref h_this_diocese_place])), (h_this_diocese_place, .inl (cI, 10, .inl f_4)), (h_this_diocese_stitches, .inl (cI, 10, .inl f_5)), (h_this_diocese_wool, .inl (cI, 10, .inl f_6)), (h_a0, .inr (1, [.int v_a0_there, .int v_a0_hair, .int v_a0_year, .ref h_a0_wool, .ref h_a0_stitches, .ref h_a0_place])), (h_a0_place, .inl (cI, 10, .inl v_a0_place)), (h_a0_stitches, .inl (cI, 10, .inl v_a0_stitches)), (h_a0_wool, .inl (cI, 10, .inl v_a0_wool)), (h_this_sights, .inr (4, [.int g_7, .ref h_this_sights_sundays, .ref h_this_sights_felt])), (h_this_sights_felt, .inl (cI, 8, .inl f_8)), (h_this_sights_sundays, .inl (cI, 8, .inl f_9)), (h_a1, .inr (4, [.int v_a1_count, .ref h_a1_sundays, .ref h_a1_felt])), (h_a1_felt, .inl (cI, 8, .inl v_a1_felt)), (h_a1_sundays, .inl (cI, 8, .inl v_a1_sundays))] := hD
  exact W.vret hx hb hr (fun t ht hW => ⟨⟨((1 : Int32), g_1, g_2, g_3, f_4, f_5, f_6, g_7, f_8, f_9), rfl, vc, QB_mk (hP.sub [0, 1, 2, 3, 4, 9, 10, 11, 5, 6, 7, 8, 12, 13, 14] rfl) (hD.sub [0, 1, 2, 3, 4, 9, 10, 11, 5, 6, 7, 8, 12, 13, 14] rfl rfl) ht⟩, hS.F ht⟩) hS.2.2 dX2_keep_21

theorem mwX2_bringBack_1 : Cond.fieldLink RX2 7 "HassockSee$Image" "kept" "Z" ∈ wsX2_bringBack := List.mem_of_getElem? (i := 1) rfl
theorem mwX2_bringBack_2 : Cond.fieldLink RX2 16 "HassockSee$Image" "diocese" "LHassockSee$Diocese;" ∈ wsX2_bringBack := List.mem_of_getElem? (i := 2) rfl
theorem mwX2_bringBack_3 : Cond.fieldLink RX2 23 "HassockSee$Image" "sights" "LHassockSee$Sights;" ∈ wsX2_bringBack := List.mem_of_getElem? (i := 3) rfl
theorem mcX2_bringBack_X2 : ∀ w ∈ u_ws RX2 TX2 3, w ∈ wsX2_bringBack := fun _ h => (List.mem_cons_of_mem _ (List.mem_append_left _ (List.mem_append_left _ (List.mem_append_right _ h))))
def KX2_bringBack (l : Launch) (D : va_G) (cI cZ : ClassId) (P : Int32 → Int32 → Int32 → Int32 → (Nat → Int32) → (Nat → Int32) → (Nat → Int32) → Int32 → (Nat → Int32) → (Nat → Int32) → Int32 → Int32 → Int32 → (Nat → Int32) → (Nat → Int32) → (Nat → Int32) → Int32 → (Nat → Int32) → (Nat → Int32) → Prop) (Q : Int32 → Int32 → Int32 → Int32 → (Nat → Int32) → (Nat → Int32) → (Nat → Int32) → Int32 → (Nat → Int32) → (Nat → Int32) → Int32 → Int32 → Int32 → (Nat → Int32) → (Nat → Int32) → (Nat → Int32) → Int32 → (Nat → Int32) → (Nat → Int32) → Int32 → Int32 → Int32 → Int32 → (Nat → Int32) → (Nat → Int32) → (Nat → Int32) → Int32 → (Nat → Int32) → (Nat → Int32) → Prop) : Prop := ∀ (sz : Nat) (h_this h_a0 h_a1 h_this_diocese h_this_sights h_this_diocese_wool h_this_diocese_stitches h_this_diocese_place h_this_sights_sundays h_this_sights_felt h_a0_wool h_a0_stitches h_a0_place h_a1_sundays h_a1_felt : Nat) (v_kept : Int32) (v_diocese_there : Int32) (v_diocese_hair : Int32) (v_diocese_year : Int32) (v_diocese_place : (Nat → Int32)) (v_diocese_stitches : (Nat → Int32)) (v_diocese_wool : (Nat → Int32)) (v_sights_count : Int32) (v_sights_felt : (Nat → Int32)) (v_sights_sundays : (Nat → Int32)) (v_a0_there : Int32) (v_a0_hair : Int32) (v_a0_year : Int32) (v_a0_place : (Nat → Int32)) (v_a0_stitches : (Nat → Int32)) (v_a0_wool : (Nat → Int32)) (v_a1_count : Int32) (v_a1_felt : (Nat → Int32)) (v_a1_sundays : (Nat → Int32)), P v_kept v_diocese_there v_diocese_hair v_diocese_year v_diocese_place v_diocese_stitches v_diocese_wool v_sights_count v_sights_felt v_sights_sundays v_a0_there v_a0_hair v_a0_year v_a0_place v_a0_stitches v_a0_wool v_a1_count v_a1_felt v_a1_sundays → MI l yX2_bringBack wsX2_bringBack ({ frames := 1, cells := 0, slots := 0, locals := 22 }) [.ref h_this, .ref h_a0, .ref h_a1] D cI cZ sz [(h_this, .inr (2, [.int v_kept, .ref h_this_diocese, .ref h_this_sights])), (h_this_diocese, .inr (1, [.int v_diocese_there, .int v_diocese_hair, .int v_diocese_year, .ref h_this_diocese_wool, .ref h_this_diocese_stitches, .ref h_this_diocese_place])), (h_this_diocese_place, .inl (cI, 10, .inl v_diocese_place)), (h_this_diocese_stitches, .inl (cI, 10, .inl v_diocese_stitches)), (h_this_diocese_wool, .inl (cI, 10, .inl v_diocese_wool)), (h_this_sights, .inr (4, [.int v_sights_count, .ref h_this_sights_sundays, .ref h_this_sights_felt])), (h_this_sights_felt, .inl (cI, 8, .inl v_sights_felt)), (h_this_sights_sundays, .inl (cI, 8, .inl v_sights_sundays)), (h_a0, .inr (1, [.int v_a0_there, .int v_a0_hair, .int v_a0_year, .ref h_a0_wool, .ref h_a0_stitches, .ref h_a0_place])), (h_a0_place, .inl (cI, 10, .inl v_a0_place)), (h_a0_stitches, .inl (cI, 10, .inl v_a0_stitches)), (h_a0_wool, .inl (cI, 10, .inl v_a0_wool)), (h_a1, .inr (4, [.int v_a1_count, .ref h_a1_sundays, .ref h_a1_felt])), (h_a1_felt, .inl (cI, 8, .inl v_a1_felt)), (h_a1_sundays, .inl (cI, 8, .inl v_a1_sundays))] (fun r (u : Int32 × Int32 × Int32 × (Nat → Int32) × (Nat → Int32) × (Nat → Int32) × Int32 × (Nat → Int32) × (Nat → Int32)) => Q v_kept v_diocese_there v_diocese_hair v_diocese_year v_diocese_place v_diocese_stitches v_diocese_wool v_sights_count v_sights_felt v_sights_sundays v_a0_there v_a0_hair v_a0_year v_a0_place v_a0_stitches v_a0_wool v_a1_count v_a1_felt v_a1_sundays r (u.1) (u.2.1) (u.2.2.1) (u.2.2.2.1) (u.2.2.2.2.1) (u.2.2.2.2.2.1) (u.2.2.2.2.2.2.1) (u.2.2.2.2.2.2.2.1) (u.2.2.2.2.2.2.2.2)) (fun u => [(h_this, .inr (2, [.int v_kept, .ref h_this_diocese, .ref h_this_sights])), (h_this_diocese, .inr (1, [.int v_diocese_there, .int v_diocese_hair, .int v_diocese_year, .ref h_this_diocese_wool, .ref h_this_diocese_stitches, .ref h_this_diocese_place])), (h_this_diocese_place, .inl (cI, 10, .inl v_diocese_place)), (h_this_diocese_stitches, .inl (cI, 10, .inl v_diocese_stitches)), (h_this_diocese_wool, .inl (cI, 10, .inl v_diocese_wool)), (h_this_sights, .inr (4, [.int v_sights_count, .ref h_this_sights_sundays, .ref h_this_sights_felt])), (h_this_sights_felt, .inl (cI, 8, .inl v_sights_felt)), (h_this_sights_sundays, .inl (cI, 8, .inl v_sights_sundays)), (h_a0, .inr (1, [.int (u.1), .int (u.2.1), .int (u.2.2.1), .ref h_a0_wool, .ref h_a0_stitches, .ref h_a0_place])), (h_a0_place, .inl (cI, 10, .inl (u.2.2.2.1))), (h_a0_stitches, .inl (cI, 10, .inl (u.2.2.2.2.1))), (h_a0_wool, .inl (cI, 10, .inl (u.2.2.2.2.2.1))), (h_a1, .inr (4, [.int (u.2.2.2.2.2.2.1), .ref h_a1_sundays, .ref h_a1_felt])), (h_a1_felt, .inl (cI, 8, .inl (u.2.2.2.2.2.2.2.1))), (h_a1_sundays, .inl (cI, 8, .inl (u.2.2.2.2.2.2.2.2)))]) 0 0
set_option maxHeartbeats 4000000 in
set_option maxRecDepth 100000 in
theorem walkX2_bringBack {l : Launch} {D : va_G} {cI cZ : ClassId} {PX2_bringBack : Int32 → Int32 → Int32 → Int32 → (Nat → Int32) → (Nat → Int32) → (Nat → Int32) → Int32 → (Nat → Int32) → (Nat → Int32) → Int32 → Int32 → Int32 → (Nat → Int32) → (Nat → Int32) → (Nat → Int32) → Int32 → (Nat → Int32) → (Nat → Int32) → Prop} {QX2_bringBack : Int32 → Int32 → Int32 → Int32 → (Nat → Int32) → (Nat → Int32) → (Nat → Int32) → Int32 → (Nat → Int32) → (Nat → Int32) → Int32 → Int32 → Int32 → (Nat → Int32) → (Nat → Int32) → (Nat → Int32) → Int32 → (Nat → Int32) → (Nat → Int32) → Int32 → Int32 → Int32 → Int32 → (Nat → Int32) → (Nat → Int32) → (Nat → Int32) → Int32 → (Nat → Int32) → (Nat → Int32) → Prop} {PX1_copyFrom : Int32 → Int32 → Int32 → (Nat → Int32) → (Nat → Int32) → (Nat → Int32) → Int32 → Int32 → Int32 → (Nat → Int32) → (Nat → Int32) → (Nat → Int32) → Prop} {QX1_copyFrom : Int32 → Int32 → Int32 → (Nat → Int32) → (Nat → Int32) → (Nat → Int32) → Int32 → Int32 → Int32 → (Nat → Int32) → (Nat → Int32) → (Nat → Int32) → Int32 → Int32 → Int32 → (Nat → Int32) → (Nat → Int32) → (Nat → Int32) → Prop} {PX4_copyFrom : Int32 → (Nat → Int32) → (Nat → Int32) → Int32 → (Nat → Int32) → (Nat → Int32) → Prop} {QX4_copyFrom : Int32 → (Nat → Int32) → (Nat → Int32) → Int32 → (Nat → Int32) → (Nat → Int32) → Int32 → (Nat → Int32) → (Nat → Int32) → Prop} (kX1_copyFrom : KX1_copyFrom l D cI cZ PX1_copyFrom QX1_copyFrom) (kX4_copyFrom : KX4_copyFrom l D cI cZ PX4_copyFrom QX4_copyFrom) (hvc : ∀ (v_kept : Int32) (v_diocese_there : Int32) (v_diocese_hair : Int32) (v_diocese_year : Int32) (v_diocese_place : (Nat → Int32)) (v_diocese_stitches : (Nat → Int32)) (v_diocese_wool : (Nat → Int32)) (v_sights_count : Int32) (v_sights_felt : (Nat → Int32)) (v_sights_sundays : (Nat → Int32)) (v_a0_there : Int32) (v_a0_hair : Int32) (v_a0_year : Int32) (v_a0_place : (Nat → Int32)) (v_a0_stitches : (Nat → Int32)) (v_a0_wool : (Nat → Int32)) (v_a1_count : Int32) (v_a1_felt : (Nat → Int32)) (v_a1_sundays : (Nat → Int32)), PX2_bringBack v_kept v_diocese_there v_diocese_hair v_diocese_year v_diocese_place v_diocese_stitches v_diocese_wool v_sights_count v_sights_felt v_sights_sundays v_a0_there v_a0_hair v_a0_year v_a0_place v_a0_stitches v_a0_wool v_a1_count v_a1_felt v_a1_sundays → ((v_kept = 0 → ((v_kept = 0 ∨ v_kept = 1) ∧ QX2_bringBack v_kept v_diocese_there v_diocese_hair v_diocese_year v_diocese_place v_diocese_stitches v_diocese_wool v_sights_count v_sights_felt v_sights_sundays v_a0_there v_a0_hair v_a0_year v_a0_place v_a0_stitches v_a0_wool v_a1_count v_a1_felt v_a1_sundays v_kept v_a0_there v_a0_hair v_a0_year v_a0_place v_a0_stitches v_a0_wool v_a1_count v_a1_felt v_a1_sundays)) ∧ (¬ v_kept = 0 → (PX1_copyFrom v_a0_there v_a0_hair v_a0_year v_a0_place v_a0_stitches v_a0_wool v_diocese_there v_diocese_hair v_diocese_year v_diocese_place v_diocese_stitches v_diocese_wool ∧ (∀ (g_1 : Int32) (g_2 : Int32) (g_3 : Int32) (f_4 : (Nat → Int32)) (f_5 : (Nat → Int32)) (f_6 : (Nat → Int32)), QX1_copyFrom v_a0_there v_a0_hair v_a0_year v_a0_place v_a0_stitches v_a0_wool v_diocese_there v_diocese_hair v_diocese_year v_diocese_place v_diocese_stitches v_diocese_wool g_1 g_2 g_3 f_4 f_5 f_6 → (PX4_copyFrom v_a1_count v_a1_felt v_a1_sundays v_sights_count v_sights_felt v_sights_sundays ∧ (∀ (g_7 : Int32) (f_8 : (Nat → Int32)) (f_9 : (Nat → Int32)), QX4_copyFrom v_a1_count v_a1_felt v_a1_sundays v_sights_count v_sights_felt v_sights_sundays g_7 f_8 f_9 → ((v_kept = 0 ∨ v_kept = 1) ∧ QX2_bringBack v_kept v_diocese_there v_diocese_hair v_diocese_year v_diocese_place v_diocese_stitches v_diocese_wool v_sights_count v_sights_felt v_sights_sundays v_a0_there v_a0_hair v_a0_year v_a0_place v_a0_stitches v_a0_wool v_a1_count v_a1_felt v_a1_sundays v_kept g_1 g_2 g_3 f_4 f_5 f_6 g_7 f_8 f_9)))))))) : KX2_bringBack l D cI cZ PX2_bringBack QX2_bringBack := by
  intro sz h_this h_a0 h_a1 h_this_diocese h_this_sights h_this_diocese_wool h_this_diocese_stitches h_this_diocese_place h_this_sights_sundays h_this_sights_felt h_a0_wool h_a0_stitches h_a0_place h_a1_sundays h_a1_felt v_kept v_diocese_there v_diocese_hair v_diocese_year v_diocese_place v_diocese_stitches v_diocese_wool v_sights_count v_sights_felt v_sights_sundays v_a0_there v_a0_hair v_a0_year v_a0_place v_a0_stitches v_a0_wool v_a1_count v_a1_felt v_a1_sundays hpre
  have vc := hvc v_kept v_diocese_there v_diocese_hair v_diocese_year v_diocese_place v_diocese_stitches v_diocese_wool v_sights_count v_sights_felt v_sights_sundays v_a0_there v_a0_hair v_a0_year v_a0_place v_a0_stitches v_a0_wool v_a1_count v_a1_felt v_a1_sundays hpre
  clear hvc
  refine Met.ofW (cc := cX2_bringBack) (maxL := 3) (ret := (some .boolean)) (by decide) rfl ?_
  intro p e s m args below meth c s₁ B hml hv
  obtain ⟨rfl, hsz, hP, hK, hD0⟩ := hv
  have hx := B.exec
  have hb := B.bytes
  have hr := B.returns
  have hts := atoms_spec (ws := wsX2_bringBack) B.pre
  have hown : s.vm.findClass RX2 = some m.cls := findClass_of_methodNamed B.named
  have hlocks := B.notSynchronized
  subst hsz
  have hD := hD0.self (sz := s.heap.size)
  generalize hAe : va_A [(h_this, .inr (2, [.int v_kept, .ref h_this_diocese, .ref h_this_sights])), (h_this_diocese, .inr (1, [.int v_diocese_there, .int v_diocese_hair, .int v_diocese_year, .ref h_this_diocese_wool, .ref h_this_diocese_stitches, .ref h_this_diocese_place])), (h_this_diocese_place, .inl (cI, 10, .inl v_diocese_place)), (h_this_diocese_stitches, .inl (cI, 10, .inl v_diocese_stitches)), (h_this_diocese_wool, .inl (cI, 10, .inl v_diocese_wool)), (h_this_sights, .inr (4, [.int v_sights_count, .ref h_this_sights_sundays, .ref h_this_sights_felt])), (h_this_sights_felt, .inl (cI, 8, .inl v_sights_felt)), (h_this_sights_sundays, .inl (cI, 8, .inl v_sights_sundays)), (h_a0, .inr (1, [.int v_a0_there, .int v_a0_hair, .int v_a0_year, .ref h_a0_wool, .ref h_a0_stitches, .ref h_a0_place])), (h_a0_place, .inl (cI, 10, .inl v_a0_place)), (h_a0_stitches, .inl (cI, 10, .inl v_a0_stitches)), (h_a0_wool, .inl (cI, 10, .inl v_a0_wool)), (h_a1, .inr (4, [.int v_a1_count, .ref h_a1_sundays, .ref h_a1_felt])), (h_a1_felt, .inl (cI, 8, .inl v_a1_felt)), (h_a1_sundays, .inl (cI, 8, .inl v_a1_sundays))] s.heap.size = A at hD ⊢
  have hA : ∀ q : Nat, s.heap.size ≤ q → A q := fun q h => by rw [← hAe]; exact Or.inr h
  have hS : va_S A s.heap s.heap [] := va_S.rf
  have hP : va_P D vwCl [(h_this, .inr (2, [.int v_kept, .ref h_this_diocese, .ref h_this_sights])), (h_this_diocese, .inr (1, [.int v_diocese_there, .int v_diocese_hair, .int v_diocese_year, .ref h_this_diocese_wool, .ref h_this_diocese_stitches, .ref h_this_diocese_place])), (h_this_diocese_place, .inl (cI, 10, .inl v_diocese_place)), (h_this_diocese_stitches, .inl (cI, 10, .inl v_diocese_stitches)), (h_this_diocese_wool, .inl (cI, 10, .inl v_diocese_wool)), (h_this_sights, .inr (4, [.int v_sights_count, .ref h_this_sights_sundays, .ref h_this_sights_felt])), (h_this_sights_felt, .inl (cI, 8, .inl v_sights_felt)), (h_this_sights_sundays, .inl (cI, 8, .inl v_sights_sundays)), (h_a0, .inr (1, [.int v_a0_there, .int v_a0_hair, .int v_a0_year, .ref h_a0_wool, .ref h_a0_stitches, .ref h_a0_place])), (h_a0_place, .inl (cI, 10, .inl v_a0_place)), (h_a0_stitches, .inl (cI, 10, .inl v_a0_stitches)), (h_a0_wool, .inl (cI, 10, .inl v_a0_wool)), (h_a1, .inr (4, [.int v_a1_count, .ref h_a1_sundays, .ref h_a1_felt])), (h_a1_felt, .inl (cI, 8, .inl v_a1_felt)), (h_a1_sundays, .inl (cI, 8, .inl v_a1_sundays))] s.heap := hP
  have hl := lv_entry ([.ref h_this, .ref h_a0, .ref h_a1]) (n := 3) (Nat.le_of_ble_eq_true rfl)
  rw [lg_entry_eq]
  generalize (lg_sl ([.ref h_this, .ref h_a0, .ref h_a1]) ++ List.replicate (3 - (lg_sl ([.ref h_this, .ref h_a0, .ref h_a1])).length) Slot.unset).toArray = ls at hl ⊢
  have hl : lv_has ls 3 [(0, .ref h_this), (1, .ref h_a0), (2, .ref h_a1)] := hl
  refine lv_aload_n hx hb dX2_bringBack_0 rfl (lv_at hl 0 rfl) ?_
  refine va_get (D := D) (ci := 2) (v := .int v_kept) (C := RX2) (T := TX2) (N := 3) hx hb hts mcX2_bringBack_X2 hown hK.1 hP 0 rfl rfl 0 (by decide) (hts _ mwX2_bringBack_1) (fun _ h9 => h9) rfl dX2_bringBack_1 ?_
  refine lv_if_eq (tgt := 23) hx hb dX2_bringBack_4 (by decide) (fun c_ => ?_) (fun c_ => ?_)
  · replace vc := vc.1 c_
    refine lv_aload_n hx hb dX2_bringBack_23 rfl (lv_at hl 0 rfl) ?_
    refine va_get (D := D) (ci := 2) (v := .int v_kept) (C := RX2) (T := TX2) (N := 3) hx hb hts mcX2_bringBack_X2 hown hK.1 hP 0 rfl rfl 0 (by decide) (hts _ mwX2_bringBack_1) (fun _ h9 => h9) rfl dX2_bringBack_24 ?_
    exact W.zret (v := v_kept) hx hb hr (bool_isB vc.1) (fun t ht hW => ⟨⟨v_kept, (v_a0_there, v_a0_hair, v_a0_year, v_a0_place, v_a0_stitches, v_a0_wool, v_a1_count, v_a1_felt, v_a1_sundays), rfl, vc.2, QB_mk (hP.sub [0, 1, 2, 3, 4, 5, 6, 7, 8, 9, 10, 11, 12, 13, 14] rfl) (hD.sub [0, 1, 2, 3, 4, 5, 6, 7, 8, 9, 10, 11, 12, 13, 14] rfl rfl) ht⟩, hS.F ht⟩) hS.2.2 dX2_bringBack_27
  · replace vc := vc.2 c_
    refine lv_aload_n hx hb dX2_bringBack_7 rfl (lv_at hl 1 rfl) ?_
    refine lv_aload_n hx hb dX2_bringBack_8 rfl (lv_at hl 0 rfl) ?_
    refine va_get (D := D) (ci := 2) (v := .ref h_this_diocese) (C := RX2) (T := TX2) (N := 3) hx hb hts mcX2_bringBack_X2 hown hK.1 hP 0 rfl rfl 1 (by decide) (hts _ mwX2_bringBack_2) (fun _ h9 => h9) rfl dX2_bringBack_9 ?_
    refine kj_v (wr := [(h_this, .inr (2, [.int v_kept, .ref h_this_diocese, .ref h_this_sights])), (h_this_sights, .inr (4, [.int v_sights_count, .ref h_this_sights_sundays, .ref h_this_sights_felt])), (h_this_sights_felt, .inl (cI, 8, .inl v_sights_felt)), (h_this_sights_sundays, .inl (cI, 8, .inl v_sights_sundays)), (h_a1, .inr (4, [.int v_a1_count, .ref h_a1_sundays, .ref h_a1_felt])), (h_a1_felt, .inl (cI, 8, .inl v_a1_felt)), (h_a1_sundays, .inl (cI, 8, .inl v_a1_sundays))]) (rest := []) (kV ⟨hx, hb, hml, hown, hts⟩ (kX1_copyFrom _ h_a0 h_this_diocese h_a0_wool h_a0_stitches h_a0_place h_this_diocese_wool h_this_diocese_stitches h_this_diocese_place v_a0_there v_a0_hair v_a0_year v_a0_place v_a0_stitches v_a0_wool v_diocese_there v_diocese_hair v_diocese_year v_diocese_place v_diocese_stitches v_diocese_wool vc.1) (cwV 1 hts gX2_bringBack_X1_copyFrom rfl rfl rfl (by decide +kernel) ⟨(Nat.le_of_ble_eq_true rfl), (Nat.le_of_ble_eq_true rfl)⟩) hK hP hD [8, 9, 10, 11, 1, 2, 3, 4] rfl rfl 0 1 rfl rfl rfl rfl rfl hl.1 (Nat.le_of_ble_eq_true rfl) dX2_bringBack_12 ⟨(Nat.le_of_ble_eq_true rfl), (Nat.le_of_ble_eq_true rfl)⟩) hP hD hS hA [8, 9, 10, 11, 1, 2, 3, 4] [0, 5, 6, 7, 12, 13, 14] rfl rfl rfl rfl (fun u_ H locs hq_ hP hD hS => ?_)
    obtain ⟨g_1, g_2, g_3, f_4, f_5, f_6⟩ := u_
    replace vc := vc.2  g_1 g_2 g_3 f_4 f_5 f_6 hq_
    refine W.widen (k := 0) (n := 0) (Nat.le_of_ble_eq_true rfl) (Nat.le_of_ble_eq_true rfl) ?_
    have hP : va_P D vwCl [(h_this, .inr (2, [.int v_kept, .ref h_this_diocese, .ref h_this_sights])), (h_this_sights, .inr (4, [.int v_sights_count, .ref h_this_sights_sundays, .ref h_this_sights_felt])), (h_this_sights_felt, .inl (cI, 8, .inl v_sights_felt)), (h_this_sights_sundays, .inl (cI, 8, .inl v_sights_sundays)), (h_a1, .inr (4, [.int v_a1_count, .ref h_a1_sundays, .ref h_a1_felt])), (h_a1_felt, .inl (cI, 8, .inl v_a1_felt)), (h_a1_sundays, .inl (cI, 8, .inl v_a1_sundays)), (h_a0, .inr (1, [.int g_1, .int g_2, .int g_3, .ref h_a0_wool, .ref h_a0_stitches, .ref h_a0_place])), (h_a0_place, .inl (cI, 10, .inl f_4)), (h_a0_stitches, .inl (cI, 10, .inl f_5)), (h_a0_wool, .inl (cI, 10, .inl f_6)), (h_this_diocese, .inr (1, [.int v_diocese_there, .int v_diocese_hair, .int v_diocese_year, .ref h_this_diocese_wool, .ref h_this_diocese_stitches, .ref h_this_diocese_place])), (h_this_diocese_place, .inl (cI, 10, .inl v_diocese_place)), (h_this_diocese_stitches, .inl (cI, 10, .inl v_diocese_stitches)), (h_this_diocese_wool, .inl (cI, 10, .inl v_diocese_wool))] H := hP
    have hD : va_D A [(h_this, .inr (2, [.int v_kept, .ref h_this_diocese, .ref h_this_sights])), (h_this_sights, .inr (4, [.int v_sights_count, .ref h_this_sights_sundays, .ref h_this_sights_felt])), (h_this_sights_felt, .inl (cI, 8, .inl v_sights_felt)), (h_this_sights_sundays, .inl (cI, 8, .inl v_sights_sundays)), (h_a1, .inr (4, [.int v_a1_count, .ref h_a1_sundays, .ref h_a1_felt])), (h_a1_felt, .inl (cI, 8, .inl v_a1_felt)), (h_a1_sundays, .inl (cI, 8, .inl v_a1_sundays)), (h_a0, .inr (1, [.int g_1, .int g_2, .int g_3, .ref h_a0_wool, .ref h_a0_stitches, .ref h_a0_place])), (h_a0_place, .inl (cI, 10, .inl f_4)), (h_a0_stitches, .inl (cI, 10, .inl f_5)), (h_a0_wool, .inl (cI, 10, .inl f_6)), (h_this_diocese, .inr (1, [.int v_diocese_there, .int v_diocese_hair, .int v_diocese_year, .ref h_this_diocese_wool, .ref h_this_diocese_stitches, .ref h_this_diocese_place])), (h_this_diocese_place, .inl (cI, 10, .inl v_diocese_place)), (h_this_diocese_stitches, .inl (cI, 10, .inl v_diocese_stitches)), (h_this_diocese_wool, .inl (cI, 10, .inl v_diocese_wool))] := hD
    refine lv_aload_n hx hb dX2_bringBack_15 rfl (lv_at hl 2 rfl) ?_
    refine lv_aload_n hx hb dX2_bringBack_16 rfl (lv_at hl 0 rfl) ?_
    refine va_get (D := D) (ci := 2) (v := .ref h_this_sights) (C := RX2) (T := TX2) (N := 3) hx hb hts mcX2_bringBack_X2 hown hK.1 hP 0 rfl rfl 2 (by decide) (hts _ mwX2_bringBack_3) (fun _ h9 => h9) rfl dX2_bringBack_17 ?_
    refine kj_v (wr := [(h_this, .inr (2, [.int v_kept, .ref h_this_diocese, .ref h_this_sights])), (h_a0, .inr (1, [.int g_1, .int g_2, .int g_3, .ref h_a0_wool, .ref h_a0_stitches, .ref h_a0_place])), (h_a0_place, .inl (cI, 10, .inl f_4)), (h_a0_stitches, .inl (cI, 10, .inl f_5)), (h_a0_wool, .inl (cI, 10, .inl f_6)), (h_this_diocese, .inr (1, [.int v_diocese_there, .int v_diocese_hair, .int v_diocese_year, .ref h_this_diocese_wool, .ref h_this_diocese_stitches, .ref h_this_diocese_place])), (h_this_diocese_place, .inl (cI, 10, .inl v_diocese_place)), (h_this_diocese_stitches, .inl (cI, 10, .inl v_diocese_stitches)), (h_this_diocese_wool, .inl (cI, 10, .inl v_diocese_wool))]) (rest := []) (kV ⟨hx, hb, hml, hown, hts⟩ (kX4_copyFrom _ h_a1 h_this_sights h_a1_sundays h_a1_felt h_this_sights_sundays h_this_sights_felt v_a1_count v_a1_felt v_a1_sundays v_sights_count v_sights_felt v_sights_sundays vc.1) (cwV 1 hts gX2_bringBack_X4_copyFrom rfl rfl rfl (by decide +kernel) ⟨(Nat.le_of_ble_eq_true rfl), (Nat.le_of_ble_eq_true rfl)⟩) hK hP hD [4, 5, 6, 1, 2, 3] rfl rfl 0 4 rfl rfl rfl rfl rfl hl.1 (Nat.le_of_ble_eq_true rfl) dX2_bringBack_20 ⟨(Nat.le_of_ble_eq_true rfl), (Nat.le_of_ble_eq_true rfl)⟩) hP hD hS hA [4, 5, 6, 1, 2, 3] [0, 7, 8, 9, 10, 11, 12, 13, 14] rfl rfl rfl rfl (fun u_ H locs hq_ hP hD hS => ?_)
    obtain ⟨g_7, f_8, f_9⟩ := u_
    replace vc := vc.2  g_7 f_8 f_9 hq_
    refine W.widen (k := 0) (n := 0) (Nat.le_of_ble_eq_true rfl) (Nat.le_of_ble_eq_true rfl) ?_
    have hP : va_P D vwCl [(h_this, .inr (2, [.int v_kept, .ref h_this_diocese, .ref h_this_sights])), (h_a0, .inr (1, [.int g_1, .int g_2, .int g_3, .ref h_a0_wool, .ref h_a0_stitches, .ref h_a0_place])), (h_a0_place, .inl (cI, 10, .inl f_4)), (h_a0_stitches, .inl (cI, 10, .inl f_5)), (h_a0_wool, .inl (cI, 10, .inl f_6)), (h_this_diocese, .inr (1, [.int v_diocese_there, .int v_diocese_hair, .int v_diocese_year, .ref h_this_diocese_wool, .ref h_this_diocese_stitches, .ref h_this_diocese_place])), (h_this_diocese_place, .inl (cI, 10, .inl v_diocese_place)), (h_this_diocese_stitches, .inl (cI, 10, .inl v_diocese_stitches)), (h_this_diocese_wool, .inl (cI, 10, .inl v_diocese_wool)), (h_a1, .inr (4, [.int g_7, .ref h_a1_sundays, .ref h_a1_felt])), (h_a1_felt, .inl (cI, 8, .inl f_8)), (h_a1_sundays, .inl (cI, 8, .inl f_9)), (h_this_sights, .inr (4, [.int v_sights_count, .ref h_this_sights_sundays, .ref h_this_sights_felt])), (h_this_sights_felt, .inl (cI, 8, .inl v_sights_felt)), (h_this_sights_sundays, .inl (cI, 8, .inl v_sights_sundays))] H := hP
    have hD : va_D A [(h_this, .inr (2, [.int v_kept, .ref h_this_diocese, .ref h_this_sights])), (h_a0, .inr (1, [.int g_1, .int g_2, .int g_3, .ref h_a0_wool, .ref h_a0_stitches, .ref h_a0_place])), (h_a0_place, .inl (cI, 10, .inl f_4)), (h_a0_stitches, .inl (cI, 10, .inl f_5)), (h_a0_wool, .inl (cI, 10, .inl f_6)), (h_this_diocese, .inr (1, [.int v_diocese_there, .int v_diocese_hair, .int v_diocese_year, .ref h_this_diocese_wool, .ref h_this_diocese_stitches, .ref h_this_diocese_place])), (h_this_diocese_place, .inl (cI, 10, .inl v_diocese_place)), (h_this_diocese_stitches, .inl (cI, 10, .inl v_diocese_stitches)), (h_this_diocese_wool, .inl (cI, 10, .inl v_diocese_wool)), (h_a1, .inr (4, [.int g_7, .ref h_a1_sundays, .ref h_a1_felt])), (h_a1_felt, .inl (cI, 8, .inl f_8)), (h_a1_sundays, .inl (cI, 8, .inl f_9)), (h_this_sights, .inr (4, [.int v_sights_count, .ref h_this_sights_sundays, .ref h_this_sights_felt])), (h_this_sights_felt, .inl (cI, 8, .inl v_sights_felt)), (h_this_sights_sundays, .inl (cI, 8, .inl v_sights_sundays))] := hD
    refine lv_aload_n hx hb dX2_bringBack_23 rfl (lv_at hl 0 rfl) ?_
    refine va_get (D := D) (ci := 2) (v := .int v_kept) (C := RX2) (T := TX2) (N := 3) hx hb hts mcX2_bringBack_X2 hown hK.1 hP 0 rfl rfl 0 (by decide) (hts _ mwX2_bringBack_1) (fun _ h9 => h9) rfl dX2_bringBack_24 ?_
    exact W.zret (v := v_kept) hx hb hr (bool_isB vc.1) (fun t ht hW => ⟨⟨v_kept, (g_1, g_2, g_3, f_4, f_5, f_6, g_7, f_8, f_9), rfl, vc.2, QB_mk (hP.sub [0, 5, 6, 7, 8, 12, 13, 14, 1, 2, 3, 4, 9, 10, 11] rfl) (hD.sub [0, 5, 6, 7, 8, 12, 13, 14, 1, 2, 3, 4, 9, 10, 11] rfl rfl) ht⟩, hS.F ht⟩) hS.2.2 dX2_bringBack_27

theorem mwX3_init_1 : Cond.methodLink RX3 3 objectInit ∈ wsX3_init := List.mem_of_getElem? (i := 1) rfl
theorem mwX3_init_2 : Cond.instanceMethod objectInit ∈ wsX3_init := List.mem_of_getElem? (i := 2) rfl
theorem mwX3_init_3 : Cond.code objectInit ⟨#[0xb1]⟩ 1 none ∈ wsX3_init := List.mem_of_getElem? (i := 3) rfl
theorem mwX3_init_4 : Cond.fieldLink RX3 9 "HassockSee$Pad" "count" "I" ∈ wsX3_init := List.mem_of_getElem? (i := 4) rfl
theorem mwX3_init_5 : Cond.arrayClass .int ∈ wsX3_init := List.mem_of_getElem? (i := 5) rfl
theorem mwX3_init_6 : Cond.fieldLink RX3 15 "HassockSee$Pad" "signs" "[I" ∈ wsX3_init := List.mem_of_getElem? (i := 6) rfl
theorem mcX3_init_X3 : ∀ w ∈ u_ws RX3 TX3 2, w ∈ wsX3_init := fun _ h => (List.mem_cons_of_mem _ (List.mem_append_right _ h))
def KX3_init (l : Launch) (D : va_G) (cI cZ : ClassId) (Q : Int32 → (Nat → Int32) → Prop) : Prop := ∀ (sz : Nat) (h_this : Nat), MV l yX3_init wsX3_init ({ frames := 1, cells := 1, slots := 60, locals := 30 }) [.ref h_this] D cI cZ sz [(h_this, .inr (3, [.int 0, .null]))] (fun (u : Nat × Int32 × (Nat → Int32)) => Q  (u.2.1) (u.2.2)) (fun u => [(h_this, .inr (3, [.int (u.2.1), .ref (u.1)])), ((u.1), .inl (cI, 60, .inl (u.2.2)))]) 1 60
set_option maxHeartbeats 4000000 in
set_option maxRecDepth 100000 in
theorem walkX3_init {l : Launch} {D : va_G} {cI cZ : ClassId} {QX3_init : Int32 → (Nat → Int32) → Prop}  (hvc : QX3_init (0 : Int32) (fun _ => 0)) : KX3_init l D cI cZ QX3_init := by
  intro sz h_this 
  have vc := hvc
  clear hvc
  refine Met.ofW (cc := cX3_init) (maxL := 1) (ret := none) (by decide) rfl ?_
  intro p e s m args below meth c s₁ B hml hv
  obtain ⟨rfl, hsz, hP, hK, hD0⟩ := hv
  have hx := B.exec
  have hb := B.bytes
  have hr := B.returns
  have hts := atoms_spec (ws := wsX3_init) B.pre
  have hown : s.vm.findClass RX3 = some m.cls := findClass_of_methodNamed B.named
  have hlocks := B.notSynchronized
  have hin : meth.name = "<init>" := (name_of_methodNamed B.named B.method).1
  subst hsz
  have hD := hD0.self (sz := s.heap.size)
  generalize hAe : va_A [(h_this, .inr (3, [.int 0, .null]))] s.heap.size = A at hD ⊢
  have hA : ∀ q : Nat, s.heap.size ≤ q → A q := fun q h => by rw [← hAe]; exact Or.inr h
  have hS : va_S A s.heap s.heap [] := va_S.rf
  have hP : va_P D vwCl [(h_this, .inr (3, [.int 0, .null]))] s.heap := hP
  have hl := lv_entry ([.ref h_this]) (n := 1) (Nat.le_of_ble_eq_true rfl)
  rw [lg_entry_eq]
  generalize (lg_sl ([.ref h_this]) ++ List.replicate (1 - (lg_sl ([.ref h_this])).length) Slot.unset).toArray = ls at hl ⊢
  have hl : lv_has ls 1 [(0, .ref h_this)] := hl
  refine lv_aload_n hx hb dX3_init_0 rfl (lv_at hl 0 rfl) ?_
  refine W.objInit hx hb hown (hts _ mwX3_init_1) (hts _ mwX3_init_2) (hts _ mwX3_init_3) rfl (by rw [hml]; exact hl.1) rfl dX3_init_1 (Nat.le_of_ble_eq_true rfl) (Nat.le_of_ble_eq_true rfl) ?_
  refine W.eq (g2 := F0 m 4 ls []) rfl ?_
  refine lv_aload_n hx hb dX3_init_4 rfl (lv_at hl 0 rfl) ?_
  refine lv_iconst (v := (0 : Int32)) hx hb dX3_init_5 (by decide) ?_
  refine va_put (D := D) (ci := 3) (v := .int (0 : Int32)) (ty := .int) (C := RX3) (T := TX3) (N := 2) hx hb hts mcX3_init_X3 tyX3 tyX3_ok nmX3 hown hK.1 hP hD hS 0 rfl rfl 0 (by decide) (hts _ mwX3_init_4) (fun _ h9 => h9) rfl (by decide +kernel) rfl rfl (Nat.le_of_ble_eq_true rfl) dX3_init_6 (fun H locs hP hD hS => ?_)
  have hP : va_P D vwCl [(h_this, .inr (3, [.int (0 : Int32), .null]))] H := hP
  have hD : va_D A [(h_this, .inr (3, [.int (0 : Int32), .null]))] := hD
  refine lv_aload_n hx hb dX3_init_9 rfl (lv_at hl 0 rfl) ?_
  refine lv_bipush (v := (60 : Int32)) hx hb dX3_init_10 (by decide) ?_
  refine va_newa (atype := .int) (ty := .int) (N' := 60) (a0 := (60, .inl (fun _ => 0))) hx hb (hts _ mwX3_init_5) rfl hK.1 hP hD hS hA (fun _ => rfl) (by decide) (by decide) (Nat.le_of_ble_eq_true rfl) (Nat.le_of_ble_eq_true rfl) (Nat.le_of_ble_eq_true rfl) dX3_init_12 (fun q12 cA_ H hK_ hP hD hS => ?_)
  have ecA_ : cI = cA_ := Option.some.inj ((hK.1.2 0 _ rfl).2.symm.trans (hK_.2 2 _ rfl).2)
  subst ecA_
  have hP : va_P D vwCl [(h_this, .inr (3, [.int (0 : Int32), .null])), (q12, .inl (cI, 60, .inl (fun _ => 0)))] H := hP
  have hD : va_D A [(h_this, .inr (3, [.int (0 : Int32), .null])), (q12, .inl (cI, 60, .inl (fun _ => 0)))] := hD
  refine W.widen (k := 1) (n := 60) (Nat.le_of_ble_eq_true rfl) (Nat.le_of_ble_eq_true rfl) ?_
  refine va_putF (D := D) (ci := 3) (v := .ref q12) (ty := .array .int) (C := RX3) (T := TX3) (N := 2) hx hb hts mcX3_init_X3 tyX3 tyX3_ok nmX3 hown hK.1 hP hD hS 0 rfl rfl 1 (by decide) (hts _ mwX3_init_6) (fun _ h9 => h9) rfl hin rfl (by decide +kernel) rfl rfl (Nat.le_of_ble_eq_true rfl) dX3_init_14 (fun H locs hP hD hS => ?_)
  have hP : va_P D vwCl [(h_this, .inr (3, [.int (0 : Int32), .ref q12])), (q12, .inl (cI, 60, .inl (fun _ => 0)))] H := hP
  have hD : va_D A [(h_this, .inr (3, [.int (0 : Int32), .ref q12])), (q12, .inl (cI, 60, .inl (fun _ => 0)))] := hD
  exact W.vret hx hb hr (fun t ht hW => ⟨⟨(q12, (0 : Int32), (fun _ => 0)), rfl, vc, QB_mk (hP.sub [0, 1] rfl) (hD.sub [0, 1] rfl rfl) ht⟩, hS.F ht⟩) hS.2.2 dX3_init_17

theorem mwX3_write_1 : Cond.fieldLink RX3 9 "HassockSee$Pad" "count" "I" ∈ wsX3_write := List.mem_of_getElem? (i := 1) rfl
theorem mwX3_write_2 : Cond.fieldLink RX3 15 "HassockSee$Pad" "signs" "[I" ∈ wsX3_write := List.mem_of_getElem? (i := 2) rfl
theorem mcX3_write_X3 : ∀ w ∈ u_ws RX3 TX3 2, w ∈ wsX3_write := fun _ h => (List.mem_cons_of_mem _ (List.mem_append_right _ h))
def KX3_write (l : Launch) (D : va_G) (cI cZ : ClassId) (P : Int32 → Int32 → (Nat → Int32) → Prop) (Q : Int32 → Int32 → (Nat → Int32) → Int32 → Int32 → (Nat → Int32) → Prop) : Prop := ∀ (sz : Nat) (h_this h_this_signs : Nat) (p0 : Int32) (v_count : Int32) (v_signs : (Nat → Int32)), P p0 v_count v_signs → MI l yX3_write wsX3_write ({ frames := 0, cells := 0, slots := 0, locals := 0 }) [.ref h_this, .int p0] D cI cZ sz [(h_this, .inr (3, [.int v_count, .ref h_this_signs])), (h_this_signs, .inl (cI, 60, .inl v_signs))] (fun r (u : Int32 × (Nat → Int32)) => Q p0 v_count v_signs r (u.1) (u.2)) (fun u => [(h_this, .inr (3, [.int (u.1), .ref h_this_signs])), (h_this_signs, .inl (cI, 60, .inl (u.2)))]) 0 0
set_option maxHeartbeats 4000000 in
set_option maxRecDepth 100000 in
theorem walkX3_write {l : Launch} {D : va_G} {cI cZ : ClassId} {PX3_write : Int32 → Int32 → (Nat → Int32) → Prop} {QX3_write : Int32 → Int32 → (Nat → Int32) → Int32 → Int32 → (Nat → Int32) → Prop}  (hvc : ∀ (p0 : Int32) (v_count : Int32) (v_signs : (Nat → Int32)), PX3_write p0 v_count v_signs → ((v_count < (60 : Int32) → (vp_in v_count 60 ∧ (∀ x_2 : Int32, x_2 = (v_count + (1 : Int32)) → (QX3_write p0 v_count v_signs (1 : Int32) x_2 (upd v_signs (v_count).toNatClampNeg p0))))) ∧ (¬ v_count < (60 : Int32) → (QX3_write p0 v_count v_signs (0 : Int32) v_count v_signs)))) : KX3_write l D cI cZ PX3_write QX3_write := by
  intro sz h_this h_this_signs p0 v_count v_signs hpre
  have vc := hvc p0 v_count v_signs hpre
  clear hvc
  refine Met.ofW (cc := cX3_write) (maxL := 2) (ret := (some .boolean)) (by decide) rfl ?_
  intro p e s m args below meth c s₁ B hml hv
  obtain ⟨rfl, hsz, hP, hK, hD0⟩ := hv
  have hx := B.exec
  have hb := B.bytes
  have hr := B.returns
  have hts := atoms_spec (ws := wsX3_write) B.pre
  have hown : s.vm.findClass RX3 = some m.cls := findClass_of_methodNamed B.named
  have hlocks := B.notSynchronized
  subst hsz
  have hD := hD0.self (sz := s.heap.size)
  generalize hAe : va_A [(h_this, .inr (3, [.int v_count, .ref h_this_signs])), (h_this_signs, .inl (cI, 60, .inl v_signs))] s.heap.size = A at hD ⊢
  have hA : ∀ q : Nat, s.heap.size ≤ q → A q := fun q h => by rw [← hAe]; exact Or.inr h
  have hS : va_S A s.heap s.heap [] := va_S.rf
  have hP : va_P D vwCl [(h_this, .inr (3, [.int v_count, .ref h_this_signs])), (h_this_signs, .inl (cI, 60, .inl v_signs))] s.heap := hP
  have hl := lv_entry ([.ref h_this, .int p0]) (n := 2) (Nat.le_of_ble_eq_true rfl)
  rw [lg_entry_eq]
  generalize (lg_sl ([.ref h_this, .int p0]) ++ List.replicate (2 - (lg_sl ([.ref h_this, .int p0])).length) Slot.unset).toArray = ls at hl ⊢
  have hl : lv_has ls 2 [(0, .ref h_this), (1, .int p0)] := hl
  refine lv_aload_n hx hb dX3_write_0 rfl (lv_at hl 0 rfl) ?_
  refine va_get (D := D) (ci := 3) (v := .int v_count) (C := RX3) (T := TX3) (N := 2) hx hb hts mcX3_write_X3 hown hK.1 hP 0 rfl rfl 0 (by decide) (hts _ mwX3_write_1) (fun _ h9 => h9) rfl dX3_write_1 ?_
  refine lv_bipush (v := (60 : Int32)) hx hb dX3_write_4 (by decide) ?_
  refine lv_icmp_lt (tgt := 11) hx hb dX3_write_6 (by decide) (fun c_ => ?_) (fun c_ => ?_)
  · replace vc := vc.1 c_
    refine lv_aload_n hx hb dX3_write_11 rfl (lv_at hl 0 rfl) ?_
    refine va_get (D := D) (ci := 3) (v := .ref h_this_signs) (C := RX3) (T := TX3) (N := 2) hx hb hts mcX3_write_X3 hown hK.1 hP 0 rfl rfl 1 (by decide) (hts _ mwX3_write_2) (fun _ h9 => h9) rfl dX3_write_12 ?_
    refine lv_aload_n hx hb dX3_write_15 rfl (lv_at hl 0 rfl) ?_
    refine va_get (D := D) (ci := 3) (v := .int v_count) (C := RX3) (T := TX3) (N := 2) hx hb hts mcX3_write_X3 hown hK.1 hP 0 rfl rfl 0 (by decide) (hts _ mwX3_write_1) (fun _ h9 => h9) rfl dX3_write_16 ?_
    refine lv_iload_n hx hb dX3_write_19 rfl (lv_at hl 1 rfl) ?_
    have hi_1 := vc.1
    replace vc := vc.2
    refine va_iast hx hb hK.1 hP hD hS 1 0 rfl rfl hi_1 dX3_write_20 (fun H locs hP hD hS => ?_)
    have hP : va_P D vwCl [(h_this, .inr (3, [.int v_count, .ref h_this_signs])), (h_this_signs, .inl (cI, 60, .inl (upd v_signs (v_count).toNatClampNeg p0)))] H := hP
    have hD : va_D A [(h_this, .inr (3, [.int v_count, .ref h_this_signs])), (h_this_signs, .inl (cI, 60, .inl (upd v_signs (v_count).toNatClampNeg p0)))] := hD
    refine lv_aload_n hx hb dX3_write_21 rfl (lv_at hl 0 rfl) ?_
    refine lv_dup hx hb dX3_write_22 rfl ?_
    refine va_get (D := D) (ci := 3) (v := .int v_count) (C := RX3) (T := TX3) (N := 2) hx hb hts mcX3_write_X3 hown hK.1 hP 0 rfl rfl 0 (by decide) (hts _ mwX3_write_1) (fun _ h9 => h9) rfl dX3_write_23 ?_
    refine lv_iconst (v := (1 : Int32)) hx hb dX3_write_26 (by decide) ?_
    refine lv_iadd hx hb dX3_write_27 ?_
    refine lv_topi (fun x_2 ex_2 => ?_)
    replace vc := vc x_2 ex_2
    refine va_put (D := D) (ci := 3) (v := .int x_2) (ty := .int) (C := RX3) (T := TX3) (N := 2) hx hb hts mcX3_write_X3 tyX3 tyX3_ok nmX3 hown hK.1 hP hD hS 0 rfl rfl 0 (by decide) (hts _ mwX3_write_1) (fun _ h9 => h9) rfl (by decide +kernel) rfl rfl (Nat.le_of_ble_eq_true rfl) dX3_write_28 (fun H locs hP hD hS => ?_)
    have hP : va_P D vwCl [(h_this, .inr (3, [.int x_2, .ref h_this_signs])), (h_this_signs, .inl (cI, 60, .inl (upd v_signs (v_count).toNatClampNeg p0)))] H := hP
    have hD : va_D A [(h_this, .inr (3, [.int x_2, .ref h_this_signs])), (h_this_signs, .inl (cI, 60, .inl (upd v_signs (v_count).toNatClampNeg p0)))] := hD
    refine lv_iconst (v := (1 : Int32)) hx hb dX3_write_31 (by decide) ?_
    exact W.zret (v := (1 : Int32)) hx hb hr rfl (fun t ht hW => ⟨⟨(1 : Int32), (x_2, (upd v_signs (v_count).toNatClampNeg p0)), rfl, vc, QB_mk (hP.sub [0, 1] rfl) (hD.sub [0, 1] rfl rfl) ht⟩, hS.F ht⟩) hS.2.2 dX3_write_32
  · replace vc := vc.2 c_
    refine lv_iconst (v := (0 : Int32)) hx hb dX3_write_9 (by decide) ?_
    exact W.zret (v := (0 : Int32)) hx hb hr rfl (fun t ht hW => ⟨⟨(0 : Int32), (v_count, v_signs), rfl, vc, QB_mk (hP.sub [0, 1] rfl) (hD.sub [0, 1] rfl rfl) ht⟩, hS.F ht⟩) hS.2.2 dX3_write_10

theorem mwX3_clear_1 : Cond.fieldLink RX3 9 "HassockSee$Pad" "count" "I" ∈ wsX3_clear := List.mem_of_getElem? (i := 1) rfl
theorem mcX3_clear_X3 : ∀ w ∈ u_ws RX3 TX3 2, w ∈ wsX3_clear := fun _ h => (List.mem_cons_of_mem _ (List.mem_append_right _ h))
def KX3_clear (l : Launch) (D : va_G) (cI cZ : ClassId) (P : Int32 → Prop) (Q : Int32 → Int32 → Prop) : Prop := ∀ (sz : Nat) (h_this h_this_signs : Nat) (v_count : Int32), P v_count → MV l yX3_clear wsX3_clear ({ frames := 0, cells := 0, slots := 0, locals := 0 }) [.ref h_this] D cI cZ sz [(h_this, .inr (3, [.int v_count, .ref h_this_signs]))] (fun (u : Int32) => Q v_count u) (fun u => [(h_this, .inr (3, [.int u, .ref h_this_signs]))]) 0 0
set_option maxHeartbeats 4000000 in
set_option maxRecDepth 100000 in
theorem walkX3_clear {l : Launch} {D : va_G} {cI cZ : ClassId} {PX3_clear : Int32 → Prop} {QX3_clear : Int32 → Int32 → Prop}  (hvc : ∀ (v_count : Int32), PX3_clear v_count → (QX3_clear v_count (0 : Int32))) : KX3_clear l D cI cZ PX3_clear QX3_clear := by
  intro sz h_this h_this_signs v_count hpre
  have vc := hvc v_count hpre
  clear hvc
  refine Met.ofW (cc := cX3_clear) (maxL := 1) (ret := none) (by decide) rfl ?_
  intro p e s m args below meth c s₁ B hml hv
  obtain ⟨rfl, hsz, hP, hK, hD0⟩ := hv
  have hx := B.exec
  have hb := B.bytes
  have hr := B.returns
  have hts := atoms_spec (ws := wsX3_clear) B.pre
  have hown : s.vm.findClass RX3 = some m.cls := findClass_of_methodNamed B.named
  have hlocks := B.notSynchronized
  subst hsz
  have hD := hD0.self (sz := s.heap.size)
  generalize hAe : va_A [(h_this, .inr (3, [.int v_count, .ref h_this_signs]))] s.heap.size = A at hD ⊢
  have hA : ∀ q : Nat, s.heap.size ≤ q → A q := fun q h => by rw [← hAe]; exact Or.inr h
  have hS : va_S A s.heap s.heap [] := va_S.rf
  have hP : va_P D vwCl [(h_this, .inr (3, [.int v_count, .ref h_this_signs]))] s.heap := hP
  have hl := lv_entry ([.ref h_this]) (n := 1) (Nat.le_of_ble_eq_true rfl)
  rw [lg_entry_eq]
  generalize (lg_sl ([.ref h_this]) ++ List.replicate (1 - (lg_sl ([.ref h_this])).length) Slot.unset).toArray = ls at hl ⊢
  have hl : lv_has ls 1 [(0, .ref h_this)] := hl
  refine lv_aload_n hx hb dX3_clear_0 rfl (lv_at hl 0 rfl) ?_
  refine lv_iconst (v := (0 : Int32)) hx hb dX3_clear_1 (by decide) ?_
  refine va_put (D := D) (ci := 3) (v := .int (0 : Int32)) (ty := .int) (C := RX3) (T := TX3) (N := 2) hx hb hts mcX3_clear_X3 tyX3 tyX3_ok nmX3 hown hK.1 hP hD hS 0 rfl rfl 0 (by decide) (hts _ mwX3_clear_1) (fun _ h9 => h9) rfl (by decide +kernel) rfl rfl (Nat.le_of_ble_eq_true rfl) dX3_clear_2 (fun H locs hP hD hS => ?_)
  have hP : va_P D vwCl [(h_this, .inr (3, [.int (0 : Int32), .ref h_this_signs]))] H := hP
  have hD : va_D A [(h_this, .inr (3, [.int (0 : Int32), .ref h_this_signs]))] := hD
  exact W.vret hx hb hr (fun t ht hW => ⟨⟨((0 : Int32)), rfl, vc, QB_mk (hP.sub [0] rfl) (hD.sub [0] rfl rfl) ht⟩, hS.F ht⟩) hS.2.2 dX3_clear_5

theorem mwX3_signAt_1 : Cond.fieldLink RX3 9 "HassockSee$Pad" "count" "I" ∈ wsX3_signAt := List.mem_of_getElem? (i := 1) rfl
theorem mwX3_signAt_2 : Cond.fieldLink RX3 15 "HassockSee$Pad" "signs" "[I" ∈ wsX3_signAt := List.mem_of_getElem? (i := 2) rfl
theorem mcX3_signAt_X3 : ∀ w ∈ u_ws RX3 TX3 2, w ∈ wsX3_signAt := fun _ h => (List.mem_cons_of_mem _ (List.mem_append_right _ h))
def KX3_signAt (l : Launch) (D : va_G) (cI cZ : ClassId) (P : Int32 → Int32 → (Nat → Int32) → Prop) (Q : Int32 → Int32 → (Nat → Int32) → Int32 → Prop) : Prop := ∀ (sz : Nat) (h_this h_this_signs : Nat) (p0 : Int32) (v_count : Int32) (v_signs : (Nat → Int32)), P p0 v_count v_signs → MI l yX3_signAt wsX3_signAt ({ frames := 0, cells := 0, slots := 0, locals := 0 }) [.ref h_this, .int p0] D cI cZ sz [(h_this, .inr (3, [.int v_count, .ref h_this_signs])), (h_this_signs, .inl (cI, 60, .inl v_signs))] (fun r (u : Unit) => Q p0 v_count v_signs r ) (fun u => [(h_this, .inr (3, [.int v_count, .ref h_this_signs])), (h_this_signs, .inl (cI, 60, .inl v_signs))]) 0 0
set_option maxHeartbeats 4000000 in
set_option maxRecDepth 100000 in
theorem walkX3_signAt {l : Launch} {D : va_G} {cI cZ : ClassId} {PX3_signAt : Int32 → Int32 → (Nat → Int32) → Prop} {QX3_signAt : Int32 → Int32 → (Nat → Int32) → Int32 → Prop}  (hvc : ∀ (p0 : Int32) (v_count : Int32) (v_signs : (Nat → Int32)), PX3_signAt p0 v_count v_signs → ((p0 < 0 → (QX3_signAt p0 v_count v_signs (0 : Int32) )) ∧ (¬ p0 < 0 → ((v_count ≤ p0 → (QX3_signAt p0 v_count v_signs (0 : Int32) )) ∧ (¬ v_count ≤ p0 → (((60 : Int32) ≤ p0 → (QX3_signAt p0 v_count v_signs (0 : Int32) )) ∧ (¬ (60 : Int32) ≤ p0 → (vp_in p0 60 ∧ (QX3_signAt p0 v_count v_signs (v_signs (p0).toNatClampNeg) ))))))))) : KX3_signAt l D cI cZ PX3_signAt QX3_signAt := by
  intro sz h_this h_this_signs p0 v_count v_signs hpre
  have vc := hvc p0 v_count v_signs hpre
  clear hvc
  refine Met.ofW (cc := cX3_signAt) (maxL := 2) (ret := (some .int)) (by decide) rfl ?_
  intro p e s m args below meth c s₁ B hml hv
  obtain ⟨rfl, hsz, hP, hK, hD0⟩ := hv
  have hx := B.exec
  have hb := B.bytes
  have hr := B.returns
  have hts := atoms_spec (ws := wsX3_signAt) B.pre
  have hown : s.vm.findClass RX3 = some m.cls := findClass_of_methodNamed B.named
  have hlocks := B.notSynchronized
  subst hsz
  have hD := hD0.self (sz := s.heap.size)
  generalize hAe : va_A [(h_this, .inr (3, [.int v_count, .ref h_this_signs])), (h_this_signs, .inl (cI, 60, .inl v_signs))] s.heap.size = A at hD ⊢
  have hA : ∀ q : Nat, s.heap.size ≤ q → A q := fun q h => by rw [← hAe]; exact Or.inr h
  have hS : va_S A s.heap s.heap [] := va_S.rf
  have hP : va_P D vwCl [(h_this, .inr (3, [.int v_count, .ref h_this_signs])), (h_this_signs, .inl (cI, 60, .inl v_signs))] s.heap := hP
  have hl := lv_entry ([.ref h_this, .int p0]) (n := 2) (Nat.le_of_ble_eq_true rfl)
  rw [lg_entry_eq]
  generalize (lg_sl ([.ref h_this, .int p0]) ++ List.replicate (2 - (lg_sl ([.ref h_this, .int p0])).length) Slot.unset).toArray = ls at hl ⊢
  have hl : lv_has ls 2 [(0, .ref h_this), (1, .int p0)] := hl
  refine lv_iload_n hx hb dX3_signAt_0 rfl (lv_at hl 1 rfl) ?_
  refine lv_if_lt (tgt := 27) hx hb dX3_signAt_1 (by decide) (fun c_ => ?_) (fun c_ => ?_)
  · replace vc := vc.1 c_
    refine lv_iconst (v := (0 : Int32)) hx hb dX3_signAt_27 (by decide) ?_
    exact W.iret (v := (0 : Int32)) hx hb hr (fun t ht hW => ⟨⟨(0 : Int32), (), rfl, vc, QB_mk (hP.sub [0, 1] rfl) (hD.sub [0, 1] rfl rfl) ht⟩, hS.F ht⟩) hS.2.2 dX3_signAt_28
  · replace vc := vc.2 c_
    refine lv_iload_n hx hb dX3_signAt_4 rfl (lv_at hl 1 rfl) ?_
    refine lv_aload_n hx hb dX3_signAt_5 rfl (lv_at hl 0 rfl) ?_
    refine va_get (D := D) (ci := 3) (v := .int v_count) (C := RX3) (T := TX3) (N := 2) hx hb hts mcX3_signAt_X3 hown hK.1 hP 0 rfl rfl 0 (by decide) (hts _ mwX3_signAt_1) (fun _ h9 => h9) rfl dX3_signAt_6 ?_
    refine lv_icmp_ge (tgt := 27) hx hb dX3_signAt_9 (by decide) (fun c_ => ?_) (fun c_ => ?_)
    · replace vc := vc.1 c_
      refine lv_iconst (v := (0 : Int32)) hx hb dX3_signAt_27 (by decide) ?_
      exact W.iret (v := (0 : Int32)) hx hb hr (fun t ht hW => ⟨⟨(0 : Int32), (), rfl, vc, QB_mk (hP.sub [0, 1] rfl) (hD.sub [0, 1] rfl rfl) ht⟩, hS.F ht⟩) hS.2.2 dX3_signAt_28
    · replace vc := vc.2 c_
      refine lv_iload_n hx hb dX3_signAt_12 rfl (lv_at hl 1 rfl) ?_
      refine lv_bipush (v := (60 : Int32)) hx hb dX3_signAt_13 (by decide) ?_
      refine lv_icmp_ge (tgt := 27) hx hb dX3_signAt_15 (by decide) (fun c_ => ?_) (fun c_ => ?_)
      · replace vc := vc.1 c_
        refine lv_iconst (v := (0 : Int32)) hx hb dX3_signAt_27 (by decide) ?_
        exact W.iret (v := (0 : Int32)) hx hb hr (fun t ht hW => ⟨⟨(0 : Int32), (), rfl, vc, QB_mk (hP.sub [0, 1] rfl) (hD.sub [0, 1] rfl rfl) ht⟩, hS.F ht⟩) hS.2.2 dX3_signAt_28
      · replace vc := vc.2 c_
        refine lv_aload_n hx hb dX3_signAt_18 rfl (lv_at hl 0 rfl) ?_
        refine va_get (D := D) (ci := 3) (v := .ref h_this_signs) (C := RX3) (T := TX3) (N := 2) hx hb hts mcX3_signAt_X3 hown hK.1 hP 0 rfl rfl 1 (by decide) (hts _ mwX3_signAt_2) (fun _ h9 => h9) rfl dX3_signAt_19 ?_
        refine lv_iload_n hx hb dX3_signAt_22 rfl (lv_at hl 1 rfl) ?_
        have hi_1 := vc.1
        replace vc := vc.2
        refine va_iald hx hb hK.1 hP 1 0 rfl rfl hi_1 dX3_signAt_23 ?_
        refine lv_goto (tgt := 28) hx hb dX3_signAt_24 (by decide) ?_
        exact W.iret (v := (v_signs (p0).toNatClampNeg)) hx hb hr (fun t ht hW => ⟨⟨(v_signs (p0).toNatClampNeg), (), rfl, vc, QB_mk (hP.sub [0, 1] rfl) (hD.sub [0, 1] rfl rfl) ht⟩, hS.F ht⟩) hS.2.2 dX3_signAt_28

def KX8_isWithin (l : Launch) (D : va_G) (cI cZ : ClassId) (P : Int32 → Int32 → Int32 → Prop) (Q : Int32 → Int32 → Int32 → Int32 → Prop) : Prop := ∀ (sz : Nat) (p0 : Int32) (p1 : Int32) (p2 : Int32), P p0 p1 p2 → MI l yX8_isWithin wsX8_isWithin ({ frames := 0, cells := 0, slots := 0, locals := 0 }) [.int p0, .int p1, .int p2] D cI cZ sz [] (fun r (u : Unit) => Q p0 p1 p2 r ) (fun u => []) 0 0
set_option maxHeartbeats 4000000 in
set_option maxRecDepth 100000 in
theorem walkX8_isWithin {l : Launch} {D : va_G} {cI cZ : ClassId} {PX8_isWithin : Int32 → Int32 → Int32 → Prop} {QX8_isWithin : Int32 → Int32 → Int32 → Int32 → Prop}  (hvc : ∀ (p0 : Int32) (p1 : Int32) (p2 : Int32), PX8_isWithin p0 p1 p2 → ((p0 < p1 → (QX8_isWithin p0 p1 p2 (0 : Int32) )) ∧ (¬ p0 < p1 → ((p2 < p0 → (QX8_isWithin p0 p1 p2 (0 : Int32) )) ∧ (¬ p2 < p0 → (QX8_isWithin p0 p1 p2 (1 : Int32) )))))) : KX8_isWithin l D cI cZ PX8_isWithin QX8_isWithin := by
  intro sz  p0 p1 p2 hpre
  have vc := hvc p0 p1 p2 hpre
  clear hvc
  refine Met.ofW (cc := cX8_isWithin) (maxL := 3) (ret := (some .boolean)) (by decide) rfl ?_
  intro p e s m args below meth c s₁ B hml hv
  obtain ⟨rfl, hsz, hP, hK, hD0⟩ := hv
  have hx := B.exec
  have hb := B.bytes
  have hr := B.returns
  have hts := atoms_spec (ws := wsX8_isWithin) B.pre
  have hown : s.vm.findClass RX8 = some m.cls := findClass_of_methodNamed B.named
  have hlocks := B.notSynchronized
  subst hsz
  have hD := hD0.self (sz := s.heap.size)
  generalize hAe : va_A [] s.heap.size = A at hD ⊢
  have hA : ∀ q : Nat, s.heap.size ≤ q → A q := fun q h => by rw [← hAe]; exact Or.inr h
  have hS : va_S A s.heap s.heap [] := va_S.rf
  have hP : va_P D vwCl [] s.heap := hP
  have hl := lv_entry ([.int p0, .int p1, .int p2]) (n := 3) (Nat.le_of_ble_eq_true rfl)
  rw [lg_entry_eq]
  generalize (lg_sl ([.int p0, .int p1, .int p2]) ++ List.replicate (3 - (lg_sl ([.int p0, .int p1, .int p2])).length) Slot.unset).toArray = ls at hl ⊢
  have hl : lv_has ls 3 [(0, .int p0), (1, .int p1), (2, .int p2)] := hl
  refine lv_iload_n hx hb dX8_isWithin_0 rfl (lv_at hl 0 rfl) ?_
  refine lv_iload_n hx hb dX8_isWithin_1 rfl (lv_at hl 1 rfl) ?_
  refine lv_icmp_lt (tgt := 14) hx hb dX8_isWithin_2 (by decide) (fun c_ => ?_) (fun c_ => ?_)
  · replace vc := vc.1 c_
    refine lv_iconst (v := (0 : Int32)) hx hb dX8_isWithin_14 (by decide) ?_
    exact W.zret (v := (0 : Int32)) hx hb hr rfl (fun t ht hW => ⟨⟨(0 : Int32), (), rfl, vc, QB_mk (hP.sub [] rfl) (hD.sub [] rfl rfl) ht⟩, hS.F ht⟩) hS.2.2 dX8_isWithin_15
  · replace vc := vc.2 c_
    refine lv_iload_n hx hb dX8_isWithin_5 rfl (lv_at hl 0 rfl) ?_
    refine lv_iload_n hx hb dX8_isWithin_6 rfl (lv_at hl 2 rfl) ?_
    refine lv_icmp_gt (tgt := 14) hx hb dX8_isWithin_7 (by decide) (fun c_ => ?_) (fun c_ => ?_)
    · replace vc := vc.1 c_
      refine lv_iconst (v := (0 : Int32)) hx hb dX8_isWithin_14 (by decide) ?_
      exact W.zret (v := (0 : Int32)) hx hb hr rfl (fun t ht hW => ⟨⟨(0 : Int32), (), rfl, vc, QB_mk (hP.sub [] rfl) (hD.sub [] rfl rfl) ht⟩, hS.F ht⟩) hS.2.2 dX8_isWithin_15
    · replace vc := vc.2 c_
      refine lv_iconst (v := (1 : Int32)) hx hb dX8_isWithin_10 (by decide) ?_
      refine lv_goto (tgt := 15) hx hb dX8_isWithin_11 (by decide) ?_
      exact W.zret (v := (1 : Int32)) hx hb hr rfl (fun t ht hW => ⟨⟨(1 : Int32), (), rfl, vc, QB_mk (hP.sub [] rfl) (hD.sub [] rfl rfl) ht⟩, hS.F ht⟩) hS.2.2 dX8_isWithin_15

theorem mwX3_isLetter_1 : Cond.static yX8_isWithin ∈ wsX3_isLetter := List.mem_of_getElem? (i := 1) rfl
theorem mwX3_isLetter_2 : Cond.initialized RX8 ∈ wsX3_isLetter := List.mem_of_getElem? (i := 2) rfl
def KX3_isLetter (l : Launch) (D : va_G) (cI cZ : ClassId) (P : Int32 → Prop) (Q : Int32 → Int32 → Prop) : Prop := ∀ (sz : Nat) (p0 : Int32), P p0 → MI l yX3_isLetter wsX3_isLetter ({ frames := 1, cells := 0, slots := 0, locals := 22 }) [.int p0] D cI cZ sz [] (fun r (u : Unit) => Q p0 r ) (fun u => []) 0 0
set_option maxHeartbeats 4000000 in
set_option maxRecDepth 100000 in
theorem walkX3_isLetter {l : Launch} {D : va_G} {cI cZ : ClassId} {PX3_isLetter : Int32 → Prop} {QX3_isLetter : Int32 → Int32 → Prop} {PX8_isWithin : Int32 → Int32 → Int32 → Prop} {QX8_isWithin : Int32 → Int32 → Int32 → Int32 → Prop} (kX8_isWithin : KX8_isWithin l D cI cZ PX8_isWithin QX8_isWithin) (hvc : ∀ (p0 : Int32), PX3_isLetter p0 → (PX8_isWithin p0 (65 : Int32) (74 : Int32) ∧ (∀ r_1 : Int32, QX8_isWithin p0 (65 : Int32) (74 : Int32) r_1 → ((r_1 = 0 ∨ r_1 = 1) ∧ QX3_isLetter p0 r_1 )))) : KX3_isLetter l D cI cZ PX3_isLetter QX3_isLetter := by
  intro sz  p0 hpre
  have vc := hvc p0 hpre
  clear hvc
  refine Met.ofW (cc := cX3_isLetter) (maxL := 1) (ret := (some .boolean)) (by decide) rfl ?_
  intro p e s m args below meth c s₁ B hml hv
  obtain ⟨rfl, hsz, hP, hK, hD0⟩ := hv
  have hx := B.exec
  have hb := B.bytes
  have hr := B.returns
  have hts := atoms_spec (ws := wsX3_isLetter) B.pre
  have hown : s.vm.findClass RX3 = some m.cls := findClass_of_methodNamed B.named
  have hlocks := B.notSynchronized
  subst hsz
  have hD := hD0.self (sz := s.heap.size)
  generalize hAe : va_A [] s.heap.size = A at hD ⊢
  have hA : ∀ q : Nat, s.heap.size ≤ q → A q := fun q h => by rw [← hAe]; exact Or.inr h
  have hS : va_S A s.heap s.heap [] := va_S.rf
  have hP : va_P D vwCl [] s.heap := hP
  have hl := lv_entry ([.int p0]) (n := 1) (Nat.le_of_ble_eq_true rfl)
  rw [lg_entry_eq]
  generalize (lg_sl ([.int p0]) ++ List.replicate (1 - (lg_sl ([.int p0])).length) Slot.unset).toArray = ls at hl ⊢
  have hl : lv_has ls 1 [(0, .int p0)] := hl
  refine lv_iload_n hx hb dX3_isLetter_0 rfl (lv_at hl 0 rfl) ?_
  refine lv_bipush (v := (65 : Int32)) hx hb dX3_isLetter_1 (by decide) ?_
  refine lv_bipush (v := (74 : Int32)) hx hb dX3_isLetter_3 (by decide) ?_
  refine kj0_i (rest := []) (kSN ⟨hx, hb, hml, hown, hts⟩ (kX8_isWithin _ p0 (65 : Int32) (74 : Int32) vc.1) ⟨va_cnB 3 hts gX3_isLetter_X8_isWithin_n33 rfl rfl rfl (KK_n10 hK) (hts _ mwX3_isLetter_2) (by decide +kernel) ⟨(Nat.le_of_ble_eq_true rfl), (Nat.le_of_ble_eq_true rfl)⟩, (hts _ mwX3_isLetter_1), trivial⟩ hK rfl rfl hl.1 (Nat.le_of_ble_eq_true rfl) dX3_isLetter_5 ⟨(Nat.le_of_ble_eq_true rfl), (Nat.le_of_ble_eq_true rfl)⟩) hP hS hA (fun r_1 H locs hq_ hP hS => ?_)
  replace vc := vc.2 r_1 hq_
  have hP : va_P D vwCl [] H := hP
  exact W.zret (v := r_1) hx hb hr (bool_isB vc.1) (fun t ht hW => ⟨⟨r_1, (), rfl, vc.2, QB_mk (hP.sub [] rfl) (hD.sub [] rfl rfl) ht⟩, hS.F ht⟩) hS.2.2 dX3_isLetter_8

theorem mwX3_faultOfAct_11 : Cond.static yX8_isWithin ∈ wsX3_faultOfAct := List.mem_of_getElem? (i := 11) rfl
theorem mwX3_faultOfAct_12 : Cond.initialized RX8 ∈ wsX3_faultOfAct := List.mem_of_getElem? (i := 12) rfl
def KX3_faultOfAct (l : Launch) (D : va_G) (cI cZ : ClassId) (P : Int32 → Int32 → (Nat → Int32) → Prop) (Q : Int32 → Int32 → (Nat → Int32) → Int32 → Prop) : Prop := ∀ (sz : Nat) (h_this h_this_signs : Nat) (p0 : Int32) (v_count : Int32) (v_signs : (Nat → Int32)), P p0 v_count v_signs → MI l yX3_faultOfAct wsX3_faultOfAct ({ frames := 2, cells := 0, slots := 0, locals := 42 }) [.ref h_this, .int p0] D cI cZ sz [(h_this, .inr (3, [.int v_count, .ref h_this_signs])), (h_this_signs, .inl (cI, 60, .inl v_signs))] (fun r (u : Unit) => Q p0 v_count v_signs r ) (fun u => [(h_this, .inr (3, [.int v_count, .ref h_this_signs])), (h_this_signs, .inl (cI, 60, .inl v_signs))]) 0 0
set_option maxHeartbeats 4000000 in
set_option maxRecDepth 100000 in
theorem walkX3_faultOfAct {l : Launch} {D : va_G} {cI cZ : ClassId} {PX3_faultOfAct : Int32 → Int32 → (Nat → Int32) → Prop} {QX3_faultOfAct : Int32 → Int32 → (Nat → Int32) → Int32 → Prop} {PX3_signAt : Int32 → Int32 → (Nat → Int32) → Prop} {QX3_signAt : Int32 → Int32 → (Nat → Int32) → Int32 → Prop} {PX3_isLetter : Int32 → Prop} {QX3_isLetter : Int32 → Int32 → Prop} {PX8_isWithin : Int32 → Int32 → Int32 → Prop} {QX8_isWithin : Int32 → Int32 → Int32 → Int32 → Prop} (kX3_signAt : KX3_signAt l D cI cZ PX3_signAt QX3_signAt) (kX3_isLetter : KX3_isLetter l D cI cZ PX3_isLetter QX3_isLetter) (kX8_isWithin : KX8_isWithin l D cI cZ PX8_isWithin QX8_isWithin) (hvc : ∀ (p0 : Int32) (v_count : Int32) (v_signs : (Nat → Int32)), PX3_faultOfAct p0 v_count v_signs → (PX3_signAt p0 v_count v_signs ∧ (∀ (r_1 : Int32), QX3_signAt p0 v_count v_signs r_1  → ((¬ r_1 = (46 : Int32) → (PX3_signAt p0 v_count v_signs ∧ (∀ (r_2 : Int32), QX3_signAt p0 v_count v_signs r_2  → (PX3_isLetter r_2 ∧ (∀ r_3 : Int32, QX3_isLetter r_2 r_3 → ((¬ r_3 = 0 → (PX3_signAt (p0 + (1 : Int32)) v_count v_signs ∧ (∀ (r_4 : Int32), QX3_signAt (p0 + (1 : Int32)) v_count v_signs r_4  → (PX8_isWithin r_4 (49 : Int32) (57 : Int32) ∧ (∀ r_5 : Int32, QX8_isWithin r_4 (49 : Int32) (57 : Int32) r_5 → ((¬ r_5 = 0 → (QX3_faultOfAct p0 v_count v_signs (-6 : Int32) )) ∧ (r_5 = 0 → ((r_4 = (43 : Int32) → (QX3_faultOfAct p0 v_count v_signs (-6 : Int32) )) ∧ (¬ r_4 = (43 : Int32) → ((¬ r_4 = (36 : Int32) → ((¬ r_4 = (42 : Int32) → ((r_4 = (38 : Int32) → (PX3_signAt (p0 + (2 : Int32)) v_count v_signs ∧ (∀ (r_6 : Int32), QX3_signAt (p0 + (2 : Int32)) v_count v_signs r_6  → (PX3_isLetter r_6 ∧ (∀ r_7 : Int32, QX3_isLetter r_6 r_7 → ((r_7 = 0 → (QX3_faultOfAct p0 v_count v_signs (p0 + (2 : Int32)) )) ∧ (¬ r_7 = 0 → (QX3_faultOfAct p0 v_count v_signs (-6 : Int32) )))))))) ∧ (¬ r_4 = (38 : Int32) → ((¬ r_4 = (61 : Int32) → (QX3_faultOfAct p0 v_count v_signs (p0 + (1 : Int32)) )) ∧ (r_4 = (61 : Int32) → (PX3_signAt (p0 + (2 : Int32)) v_count v_signs ∧ (∀ (r_8 : Int32), QX3_signAt (p0 + (2 : Int32)) v_count v_signs r_8  → (PX3_isLetter r_8 ∧ (∀ r_9 : Int32, QX3_isLetter r_8 r_9 → ((r_9 = 0 → (QX3_faultOfAct p0 v_count v_signs (p0 + (2 : Int32)) )) ∧ (¬ r_9 = 0 → (QX3_faultOfAct p0 v_count v_signs (-6 : Int32) )))))))))))) ∧ (r_4 = (42 : Int32) → (PX3_signAt (p0 + (2 : Int32)) v_count v_signs ∧ (∀ (r_10 : Int32), QX3_signAt (p0 + (2 : Int32)) v_count v_signs r_10  → (PX8_isWithin r_10 (48 : Int32) (55 : Int32) ∧ (∀ r_11 : Int32, QX8_isWithin r_10 (48 : Int32) (55 : Int32) r_11 → ((r_11 = 0 → (QX3_faultOfAct p0 v_count v_signs (p0 + (2 : Int32)) )) ∧ (¬ r_11 = 0 → (QX3_faultOfAct p0 v_count v_signs (-6 : Int32) )))))))))) ∧ (r_4 = (36 : Int32) → (QX3_faultOfAct p0 v_count v_signs (-6 : Int32) )))))))))))) ∧ (r_3 = 0 → (QX3_faultOfAct p0 v_count v_signs p0 )))))))) ∧ (r_1 = (46 : Int32) → (QX3_faultOfAct p0 v_count v_signs (-6 : Int32) )))))) : KX3_faultOfAct l D cI cZ PX3_faultOfAct QX3_faultOfAct := by
  intro sz h_this h_this_signs p0 v_count v_signs hpre
  have vc := hvc p0 v_count v_signs hpre
  clear hvc
  refine Met.ofW (cc := cX3_faultOfAct) (maxL := 3) (ret := (some .int)) (by decide) rfl ?_
  intro p e s m args below meth c s₁ B hml hv
  obtain ⟨rfl, hsz, hP, hK, hD0⟩ := hv
  have hx := B.exec
  have hb := B.bytes
  have hr := B.returns
  have hts := atoms_spec (ws := wsX3_faultOfAct) B.pre
  have hown : s.vm.findClass RX3 = some m.cls := findClass_of_methodNamed B.named
  have hlocks := B.notSynchronized
  subst hsz
  have hD := hD0.self (sz := s.heap.size)
  generalize hAe : va_A [(h_this, .inr (3, [.int v_count, .ref h_this_signs])), (h_this_signs, .inl (cI, 60, .inl v_signs))] s.heap.size = A at hD ⊢
  have hA : ∀ q : Nat, s.heap.size ≤ q → A q := fun q h => by rw [← hAe]; exact Or.inr h
  have hS : va_S A s.heap s.heap [] := va_S.rf
  have hP : va_P D vwCl [(h_this, .inr (3, [.int v_count, .ref h_this_signs])), (h_this_signs, .inl (cI, 60, .inl v_signs))] s.heap := hP
  have hl := lv_entry ([.ref h_this, .int p0]) (n := 3) (Nat.le_of_ble_eq_true rfl)
  rw [lg_entry_eq]
  generalize (lg_sl ([.ref h_this, .int p0]) ++ List.replicate (3 - (lg_sl ([.ref h_this, .int p0])).length) Slot.unset).toArray = ls at hl ⊢
  have hl : lv_has ls 3 [(0, .ref h_this), (1, .int p0)] := hl
  refine lv_aload_n hx hb dX3_faultOfAct_0 rfl (lv_at hl 0 rfl) ?_
  refine lv_iload_n hx hb dX3_faultOfAct_1 rfl (lv_at hl 1 rfl) ?_
  refine kj_i (wr := []) (rest := []) (kV ⟨hx, hb, hml, hown, hts⟩ (kX3_signAt _ h_this h_this_signs p0 v_count v_signs vc.1) (cwV 1 hts gX3_faultOfAct_X3_signAt rfl rfl rfl (by decide +kernel) ⟨(Nat.le_of_ble_eq_true rfl), (Nat.le_of_ble_eq_true rfl)⟩) hK hP hD [0, 1] rfl rfl 0 3 rfl rfl rfl rfl rfl hl.1 (Nat.le_of_ble_eq_true rfl) dX3_faultOfAct_2 ⟨(Nat.le_of_ble_eq_true rfl), (Nat.le_of_ble_eq_true rfl)⟩) hP hD hS hA [0, 1] [] rfl rfl rfl rfl (fun r_1 u_ H locs hq_ hP hD hS => ?_)
  replace vc := vc.2 r_1  hq_
  have hP : va_P D vwCl [(h_this, .inr (3, [.int v_count, .ref h_this_signs])), (h_this_signs, .inl (cI, 60, .inl v_signs))] H := hP
  have hD : va_D A [(h_this, .inr (3, [.int v_count, .ref h_this_signs])), (h_this_signs, .inl (cI, 60, .inl v_signs))] := hD
  refine lv_bipush (v := (46 : Int32)) hx hb dX3_faultOfAct_5 (by decide) ?_
  refine lv_icmp_ne (tgt := 13) hx hb dX3_faultOfAct_7 (by decide) (fun c_ => ?_) (fun c_ => ?_)
  · replace vc := vc.1 c_
    refine lv_aload_n hx hb dX3_faultOfAct_13 rfl (lv_at hl 0 rfl) ?_
    refine lv_iload_n hx hb dX3_faultOfAct_14 rfl (lv_at hl 1 rfl) ?_
    refine kj_i (wr := []) (rest := []) (kV ⟨hx, hb, hml, hown, hts⟩ (kX3_signAt _ h_this h_this_signs p0 v_count v_signs vc.1) (cwV 1 hts gX3_faultOfAct_X3_signAt rfl rfl rfl (by decide +kernel) ⟨(Nat.le_of_ble_eq_true rfl), (Nat.le_of_ble_eq_true rfl)⟩) hK hP hD [0, 1] rfl rfl 0 3 rfl rfl rfl rfl rfl hl.1 (Nat.le_of_ble_eq_true rfl) dX3_faultOfAct_15 ⟨(Nat.le_of_ble_eq_true rfl), (Nat.le_of_ble_eq_true rfl)⟩) hP hD hS hA [0, 1] [] rfl rfl rfl rfl (fun r_2 u_ H locs hq_ hP hD hS => ?_)
    replace vc := vc.2 r_2  hq_
    have hP : va_P D vwCl [(h_this, .inr (3, [.int v_count, .ref h_this_signs])), (h_this_signs, .inl (cI, 60, .inl v_signs))] H := hP
    have hD : va_D A [(h_this, .inr (3, [.int v_count, .ref h_this_signs])), (h_this_signs, .inl (cI, 60, .inl v_signs))] := hD
    refine kj0_i (rest := []) (kS ⟨hx, hb, hml, hown, hts⟩ (kX3_isLetter _ r_2 vc.1) (va_cwS 1 hts gX3_faultOfAct_X3_isLetter rfl rfl rfl (by decide +kernel) ⟨(Nat.le_of_ble_eq_true rfl), (Nat.le_of_ble_eq_true rfl)⟩) hK rfl rfl hl.1 (Nat.le_of_ble_eq_true rfl) dX3_faultOfAct_18 ⟨(Nat.le_of_ble_eq_true rfl), (Nat.le_of_ble_eq_true rfl)⟩) hP hS hA (fun r_3 H locs hq_ hP hS => ?_)
    replace vc := vc.2 r_3 hq_
    have hP : va_P D vwCl [(h_this, .inr (3, [.int v_count, .ref h_this_signs])), (h_this_signs, .inl (cI, 60, .inl v_signs))] H := hP
    refine lv_if_ne (tgt := 26) hx hb dX3_faultOfAct_21 (by decide) (fun c_ => ?_) (fun c_ => ?_)
    · replace vc := vc.1 c_
      refine lv_aload_n hx hb dX3_faultOfAct_26 rfl (lv_at hl 0 rfl) ?_
      refine lv_iload_n hx hb dX3_faultOfAct_27 rfl (lv_at hl 1 rfl) ?_
      refine lv_iconst (v := (1 : Int32)) hx hb dX3_faultOfAct_28 (by decide) ?_
      refine lv_iadd hx hb dX3_faultOfAct_29 ?_
      refine kj_i (wr := []) (rest := []) (kV ⟨hx, hb, hml, hown, hts⟩ (kX3_signAt _ h_this h_this_signs (p0 + (1 : Int32)) v_count v_signs vc.1) (cwV 1 hts gX3_faultOfAct_X3_signAt rfl rfl rfl (by decide +kernel) ⟨(Nat.le_of_ble_eq_true rfl), (Nat.le_of_ble_eq_true rfl)⟩) hK hP hD [0, 1] rfl rfl 0 3 rfl rfl rfl rfl rfl hl.1 (Nat.le_of_ble_eq_true rfl) dX3_faultOfAct_30 ⟨(Nat.le_of_ble_eq_true rfl), (Nat.le_of_ble_eq_true rfl)⟩) hP hD hS hA [0, 1] [] rfl rfl rfl rfl (fun r_4 u_ H locs hq_ hP hD hS => ?_)
      replace vc := vc.2 r_4  hq_
      have hP : va_P D vwCl [(h_this, .inr (3, [.int v_count, .ref h_this_signs])), (h_this_signs, .inl (cI, 60, .inl v_signs))] H := hP
      have hD : va_D A [(h_this, .inr (3, [.int v_count, .ref h_this_signs])), (h_this_signs, .inl (cI, 60, .inl v_signs))] := hD
      refine lv_istore_n (lv' := [(2, .int r_4), (0, .ref h_this), (1, .int p0)]) hx hb dX3_faultOfAct_33 rfl hl (by decide) rfl (fun ls hl => ?_)
      refine lv_iload_n hx hb dX3_faultOfAct_34 rfl (lv_at hl 0 rfl) ?_
      refine lv_bipush (v := (49 : Int32)) hx hb dX3_faultOfAct_35 (by decide) ?_
      refine lv_bipush (v := (57 : Int32)) hx hb dX3_faultOfAct_37 (by decide) ?_
      refine kj0_i (rest := []) (kSN ⟨hx, hb, hml, hown, hts⟩ (kX8_isWithin _ r_4 (49 : Int32) (57 : Int32) vc.1) ⟨va_cnB 3 hts gX3_faultOfAct_X8_isWithin_n33 rfl rfl rfl (KK_n10 hK) (hts _ mwX3_faultOfAct_12) (by decide +kernel) ⟨(Nat.le_of_ble_eq_true rfl), (Nat.le_of_ble_eq_true rfl)⟩, (hts _ mwX3_faultOfAct_11), trivial⟩ hK rfl rfl hl.1 (Nat.le_of_ble_eq_true rfl) dX3_faultOfAct_39 ⟨(Nat.le_of_ble_eq_true rfl), (Nat.le_of_ble_eq_true rfl)⟩) hP hS hA (fun r_5 H locs hq_ hP hS => ?_)
      replace vc := vc.2 r_5 hq_
      have hP : va_P D vwCl [(h_this, .inr (3, [.int v_count, .ref h_this_signs])), (h_this_signs, .inl (cI, 60, .inl v_signs))] H := hP
      refine lv_if_ne (tgt := 57) hx hb dX3_faultOfAct_42 (by decide) (fun c_ => ?_) (fun c_ => ?_)
      · replace vc := vc.1 c_
        refine lv_bipush (v := (-6 : Int32)) hx hb dX3_faultOfAct_57 (by decide) ?_
        exact W.iret (v := (-6 : Int32)) hx hb hr (fun t ht hW => ⟨⟨(-6 : Int32), (), rfl, vc, QB_mk (hP.sub [0, 1] rfl) (hD.sub [0, 1] rfl rfl) ht⟩, hS.F ht⟩) hS.2.2 dX3_faultOfAct_59
      · replace vc := vc.2 c_
        refine lv_iload_n hx hb dX3_faultOfAct_45 rfl (lv_at hl 0 rfl) ?_
        refine lv_bipush (v := (43 : Int32)) hx hb dX3_faultOfAct_46 (by decide) ?_
        refine lv_icmp_eq (tgt := 57) hx hb dX3_faultOfAct_48 (by decide) (fun c_ => ?_) (fun c_ => ?_)
        · replace vc := vc.1 c_
          refine lv_bipush (v := (-6 : Int32)) hx hb dX3_faultOfAct_57 (by decide) ?_
          exact W.iret (v := (-6 : Int32)) hx hb hr (fun t ht hW => ⟨⟨(-6 : Int32), (), rfl, vc, QB_mk (hP.sub [0, 1] rfl) (hD.sub [0, 1] rfl rfl) ht⟩, hS.F ht⟩) hS.2.2 dX3_faultOfAct_59
        · replace vc := vc.2 c_
          refine lv_iload_n hx hb dX3_faultOfAct_51 rfl (lv_at hl 0 rfl) ?_
          refine lv_bipush (v := (36 : Int32)) hx hb dX3_faultOfAct_52 (by decide) ?_
          refine lv_icmp_ne (tgt := 60) hx hb dX3_faultOfAct_54 (by decide) (fun c_ => ?_) (fun c_ => ?_)
          · replace vc := vc.1 c_
            refine lv_iload_n hx hb dX3_faultOfAct_60 rfl (lv_at hl 0 rfl) ?_
            refine lv_bipush (v := (42 : Int32)) hx hb dX3_faultOfAct_61 (by decide) ?_
            refine lv_icmp_ne (tgt := 92) hx hb dX3_faultOfAct_63 (by decide) (fun c_ => ?_) (fun c_ => ?_)
            · replace vc := vc.1 c_
              refine lv_iload_n hx hb dX3_faultOfAct_92 rfl (lv_at hl 0 rfl) ?_
              refine lv_bipush (v := (38 : Int32)) hx hb dX3_faultOfAct_93 (by decide) ?_
              refine lv_icmp_eq (tgt := 104) hx hb dX3_faultOfAct_95 (by decide) (fun c_ => ?_) (fun c_ => ?_)
              · replace vc := vc.1 c_
                refine lv_aload_n hx hb dX3_faultOfAct_104 rfl (lv_at hl 1 rfl) ?_
                refine lv_iload_n hx hb dX3_faultOfAct_105 rfl (lv_at hl 2 rfl) ?_
                refine lv_iconst (v := (2 : Int32)) hx hb dX3_faultOfAct_106 (by decide) ?_
                refine lv_iadd hx hb dX3_faultOfAct_107 ?_
                refine kj_i (wr := []) (rest := []) (kV ⟨hx, hb, hml, hown, hts⟩ (kX3_signAt _ h_this h_this_signs (p0 + (2 : Int32)) v_count v_signs vc.1) (cwV 1 hts gX3_faultOfAct_X3_signAt rfl rfl rfl (by decide +kernel) ⟨(Nat.le_of_ble_eq_true rfl), (Nat.le_of_ble_eq_true rfl)⟩) hK hP hD [0, 1] rfl rfl 0 3 rfl rfl rfl rfl rfl hl.1 (Nat.le_of_ble_eq_true rfl) dX3_faultOfAct_108 ⟨(Nat.le_of_ble_eq_true rfl), (Nat.le_of_ble_eq_true rfl)⟩) hP hD hS hA [0, 1] [] rfl rfl rfl rfl (fun r_6 u_ H locs hq_ hP hD hS => ?_)
                replace vc := vc.2 r_6  hq_
                have hP : va_P D vwCl [(h_this, .inr (3, [.int v_count, .ref h_this_signs])), (h_this_signs, .inl (cI, 60, .inl v_signs))] H := hP
                have hD : va_D A [(h_this, .inr (3, [.int v_count, .ref h_this_signs])), (h_this_signs, .inl (cI, 60, .inl v_signs))] := hD
                refine kj0_i (rest := []) (kS ⟨hx, hb, hml, hown, hts⟩ (kX3_isLetter _ r_6 vc.1) (va_cwS 1 hts gX3_faultOfAct_X3_isLetter rfl rfl rfl (by decide +kernel) ⟨(Nat.le_of_ble_eq_true rfl), (Nat.le_of_ble_eq_true rfl)⟩) hK rfl rfl hl.1 (Nat.le_of_ble_eq_true rfl) dX3_faultOfAct_111 ⟨(Nat.le_of_ble_eq_true rfl), (Nat.le_of_ble_eq_true rfl)⟩) hP hS hA (fun r_7 H locs hq_ hP hS => ?_)
                replace vc := vc.2 r_7 hq_
                have hP : va_P D vwCl [(h_this, .inr (3, [.int v_count, .ref h_this_signs])), (h_this_signs, .inl (cI, 60, .inl v_signs))] H := hP
                refine lv_if_eq (tgt := 122) hx hb dX3_faultOfAct_114 (by decide) (fun c_ => ?_) (fun c_ => ?_)
                · replace vc := vc.1 c_
                  refine lv_iload_n hx hb dX3_faultOfAct_122 rfl (lv_at hl 2 rfl) ?_
                  refine lv_iconst (v := (2 : Int32)) hx hb dX3_faultOfAct_123 (by decide) ?_
                  refine lv_iadd hx hb dX3_faultOfAct_124 ?_
                  exact W.iret (v := (p0 + (2 : Int32))) hx hb hr (fun t ht hW => ⟨⟨(p0 + (2 : Int32)), (), rfl, vc, QB_mk (hP.sub [0, 1] rfl) (hD.sub [0, 1] rfl rfl) ht⟩, hS.F ht⟩) hS.2.2 dX3_faultOfAct_125
                · replace vc := vc.2 c_
                  refine lv_bipush (v := (-6 : Int32)) hx hb dX3_faultOfAct_117 (by decide) ?_
                  refine lv_goto (tgt := 125) hx hb dX3_faultOfAct_119 (by decide) ?_
                  exact W.iret (v := (-6 : Int32)) hx hb hr (fun t ht hW => ⟨⟨(-6 : Int32), (), rfl, vc, QB_mk (hP.sub [0, 1] rfl) (hD.sub [0, 1] rfl rfl) ht⟩, hS.F ht⟩) hS.2.2 dX3_faultOfAct_125
              · replace vc := vc.2 c_
                refine lv_iload_n hx hb dX3_faultOfAct_98 rfl (lv_at hl 0 rfl) ?_
                refine lv_bipush (v := (61 : Int32)) hx hb dX3_faultOfAct_99 (by decide) ?_
                refine lv_icmp_ne (tgt := 126) hx hb dX3_faultOfAct_101 (by decide) (fun c_ => ?_) (fun c_ => ?_)
                · replace vc := vc.1 c_
                  refine lv_iload_n hx hb dX3_faultOfAct_126 rfl (lv_at hl 2 rfl) ?_
                  refine lv_iconst (v := (1 : Int32)) hx hb dX3_faultOfAct_127 (by decide) ?_
                  refine lv_iadd hx hb dX3_faultOfAct_128 ?_
                  exact W.iret (v := (p0 + (1 : Int32))) hx hb hr (fun t ht hW => ⟨⟨(p0 + (1 : Int32)), (), rfl, vc, QB_mk (hP.sub [0, 1] rfl) (hD.sub [0, 1] rfl rfl) ht⟩, hS.F ht⟩) hS.2.2 dX3_faultOfAct_129
                · replace vc := vc.2 c_
                  refine lv_aload_n hx hb dX3_faultOfAct_104 rfl (lv_at hl 1 rfl) ?_
                  refine lv_iload_n hx hb dX3_faultOfAct_105 rfl (lv_at hl 2 rfl) ?_
                  refine lv_iconst (v := (2 : Int32)) hx hb dX3_faultOfAct_106 (by decide) ?_
                  refine lv_iadd hx hb dX3_faultOfAct_107 ?_
                  refine kj_i (wr := []) (rest := []) (kV ⟨hx, hb, hml, hown, hts⟩ (kX3_signAt _ h_this h_this_signs (p0 + (2 : Int32)) v_count v_signs vc.1) (cwV 1 hts gX3_faultOfAct_X3_signAt rfl rfl rfl (by decide +kernel) ⟨(Nat.le_of_ble_eq_true rfl), (Nat.le_of_ble_eq_true rfl)⟩) hK hP hD [0, 1] rfl rfl 0 3 rfl rfl rfl rfl rfl hl.1 (Nat.le_of_ble_eq_true rfl) dX3_faultOfAct_108 ⟨(Nat.le_of_ble_eq_true rfl), (Nat.le_of_ble_eq_true rfl)⟩) hP hD hS hA [0, 1] [] rfl rfl rfl rfl (fun r_8 u_ H locs hq_ hP hD hS => ?_)
                  replace vc := vc.2 r_8  hq_
                  have hP : va_P D vwCl [(h_this, .inr (3, [.int v_count, .ref h_this_signs])), (h_this_signs, .inl (cI, 60, .inl v_signs))] H := hP
                  have hD : va_D A [(h_this, .inr (3, [.int v_count, .ref h_this_signs])), (h_this_signs, .inl (cI, 60, .inl v_signs))] := hD
                  refine kj0_i (rest := []) (kS ⟨hx, hb, hml, hown, hts⟩ (kX3_isLetter _ r_8 vc.1) (va_cwS 1 hts gX3_faultOfAct_X3_isLetter rfl rfl rfl (by decide +kernel) ⟨(Nat.le_of_ble_eq_true rfl), (Nat.le_of_ble_eq_true rfl)⟩) hK rfl rfl hl.1 (Nat.le_of_ble_eq_true rfl) dX3_faultOfAct_111 ⟨(Nat.le_of_ble_eq_true rfl), (Nat.le_of_ble_eq_true rfl)⟩) hP hS hA (fun r_9 H locs hq_ hP hS => ?_)
                  replace vc := vc.2 r_9 hq_
                  have hP : va_P D vwCl [(h_this, .inr (3, [.int v_count, .ref h_this_signs])), (h_this_signs, .inl (cI, 60, .inl v_signs))] H := hP
                  refine lv_if_eq (tgt := 122) hx hb dX3_faultOfAct_114 (by decide) (fun c_ => ?_) (fun c_ => ?_)
                  · replace vc := vc.1 c_
                    refine lv_iload_n hx hb dX3_faultOfAct_122 rfl (lv_at hl 2 rfl) ?_
                    refine lv_iconst (v := (2 : Int32)) hx hb dX3_faultOfAct_123 (by decide) ?_
                    refine lv_iadd hx hb dX3_faultOfAct_124 ?_
                    exact W.iret (v := (p0 + (2 : Int32))) hx hb hr (fun t ht hW => ⟨⟨(p0 + (2 : Int32)), (), rfl, vc, QB_mk (hP.sub [0, 1] rfl) (hD.sub [0, 1] rfl rfl) ht⟩, hS.F ht⟩) hS.2.2 dX3_faultOfAct_125
                  · replace vc := vc.2 c_
                    refine lv_bipush (v := (-6 : Int32)) hx hb dX3_faultOfAct_117 (by decide) ?_
                    refine lv_goto (tgt := 125) hx hb dX3_faultOfAct_119 (by decide) ?_
                    exact W.iret (v := (-6 : Int32)) hx hb hr (fun t ht hW => ⟨⟨(-6 : Int32), (), rfl, vc, QB_mk (hP.sub [0, 1] rfl) (hD.sub [0, 1] rfl rfl) ht⟩, hS.F ht⟩) hS.2.2 dX3_faultOfAct_125
            · replace vc := vc.2 c_
              refine lv_aload_n hx hb dX3_faultOfAct_66 rfl (lv_at hl 1 rfl) ?_
              refine lv_iload_n hx hb dX3_faultOfAct_67 rfl (lv_at hl 2 rfl) ?_
              refine lv_iconst (v := (2 : Int32)) hx hb dX3_faultOfAct_68 (by decide) ?_
              refine lv_iadd hx hb dX3_faultOfAct_69 ?_
              refine kj_i (wr := []) (rest := []) (kV ⟨hx, hb, hml, hown, hts⟩ (kX3_signAt _ h_this h_this_signs (p0 + (2 : Int32)) v_count v_signs vc.1) (cwV 1 hts gX3_faultOfAct_X3_signAt rfl rfl rfl (by decide +kernel) ⟨(Nat.le_of_ble_eq_true rfl), (Nat.le_of_ble_eq_true rfl)⟩) hK hP hD [0, 1] rfl rfl 0 3 rfl rfl rfl rfl rfl hl.1 (Nat.le_of_ble_eq_true rfl) dX3_faultOfAct_70 ⟨(Nat.le_of_ble_eq_true rfl), (Nat.le_of_ble_eq_true rfl)⟩) hP hD hS hA [0, 1] [] rfl rfl rfl rfl (fun r_10 u_ H locs hq_ hP hD hS => ?_)
              replace vc := vc.2 r_10  hq_
              have hP : va_P D vwCl [(h_this, .inr (3, [.int v_count, .ref h_this_signs])), (h_this_signs, .inl (cI, 60, .inl v_signs))] H := hP
              have hD : va_D A [(h_this, .inr (3, [.int v_count, .ref h_this_signs])), (h_this_signs, .inl (cI, 60, .inl v_signs))] := hD
              refine lv_bipush (v := (48 : Int32)) hx hb dX3_faultOfAct_73 (by decide) ?_
              refine lv_bipush (v := (55 : Int32)) hx hb dX3_faultOfAct_75 (by decide) ?_
              refine kj0_i (rest := []) (kSN ⟨hx, hb, hml, hown, hts⟩ (kX8_isWithin _ r_10 (48 : Int32) (55 : Int32) vc.1) ⟨va_cnB 3 hts gX3_faultOfAct_X8_isWithin_n33 rfl rfl rfl (KK_n10 hK) (hts _ mwX3_faultOfAct_12) (by decide +kernel) ⟨(Nat.le_of_ble_eq_true rfl), (Nat.le_of_ble_eq_true rfl)⟩, (hts _ mwX3_faultOfAct_11), trivial⟩ hK rfl rfl hl.1 (Nat.le_of_ble_eq_true rfl) dX3_faultOfAct_77 ⟨(Nat.le_of_ble_eq_true rfl), (Nat.le_of_ble_eq_true rfl)⟩) hP hS hA (fun r_11 H locs hq_ hP hS => ?_)
              replace vc := vc.2 r_11 hq_
              have hP : va_P D vwCl [(h_this, .inr (3, [.int v_count, .ref h_this_signs])), (h_this_signs, .inl (cI, 60, .inl v_signs))] H := hP
              refine lv_if_eq (tgt := 88) hx hb dX3_faultOfAct_80 (by decide) (fun c_ => ?_) (fun c_ => ?_)
              · replace vc := vc.1 c_
                refine lv_iload_n hx hb dX3_faultOfAct_88 rfl (lv_at hl 2 rfl) ?_
                refine lv_iconst (v := (2 : Int32)) hx hb dX3_faultOfAct_89 (by decide) ?_
                refine lv_iadd hx hb dX3_faultOfAct_90 ?_
                exact W.iret (v := (p0 + (2 : Int32))) hx hb hr (fun t ht hW => ⟨⟨(p0 + (2 : Int32)), (), rfl, vc, QB_mk (hP.sub [0, 1] rfl) (hD.sub [0, 1] rfl rfl) ht⟩, hS.F ht⟩) hS.2.2 dX3_faultOfAct_91
              · replace vc := vc.2 c_
                refine lv_bipush (v := (-6 : Int32)) hx hb dX3_faultOfAct_83 (by decide) ?_
                refine lv_goto (tgt := 91) hx hb dX3_faultOfAct_85 (by decide) ?_
                exact W.iret (v := (-6 : Int32)) hx hb hr (fun t ht hW => ⟨⟨(-6 : Int32), (), rfl, vc, QB_mk (hP.sub [0, 1] rfl) (hD.sub [0, 1] rfl rfl) ht⟩, hS.F ht⟩) hS.2.2 dX3_faultOfAct_91
          · replace vc := vc.2 c_
            refine lv_bipush (v := (-6 : Int32)) hx hb dX3_faultOfAct_57 (by decide) ?_
            exact W.iret (v := (-6 : Int32)) hx hb hr (fun t ht hW => ⟨⟨(-6 : Int32), (), rfl, vc, QB_mk (hP.sub [0, 1] rfl) (hD.sub [0, 1] rfl rfl) ht⟩, hS.F ht⟩) hS.2.2 dX3_faultOfAct_59
    · replace vc := vc.2 c_
      refine lv_iload_n hx hb dX3_faultOfAct_24 rfl (lv_at hl 1 rfl) ?_
      exact W.iret (v := p0) hx hb hr (fun t ht hW => ⟨⟨p0, (), rfl, vc, QB_mk (hP.sub [0, 1] rfl) (hD.sub [0, 1] rfl rfl) ht⟩, hS.F ht⟩) hS.2.2 dX3_faultOfAct_25
  · replace vc := vc.2 c_
    refine lv_bipush (v := (-6 : Int32)) hx hb dX3_faultOfAct_10 (by decide) ?_
    exact W.iret (v := (-6 : Int32)) hx hb hr (fun t ht hW => ⟨⟨(-6 : Int32), (), rfl, vc, QB_mk (hP.sub [0, 1] rfl) (hD.sub [0, 1] rfl rfl) ht⟩, hS.F ht⟩) hS.2.2 dX3_faultOfAct_12

def KX3_kindAt (l : Launch) (D : va_G) (cI cZ : ClassId) (P : Int32 → Int32 → (Nat → Int32) → Prop) (Q : Int32 → Int32 → (Nat → Int32) → Int32 → Prop) : Prop := ∀ (sz : Nat) (h_this h_this_signs : Nat) (p0 : Int32) (v_count : Int32) (v_signs : (Nat → Int32)), P p0 v_count v_signs → MI l yX3_kindAt wsX3_kindAt ({ frames := 1, cells := 0, slots := 0, locals := 21 }) [.ref h_this, .int p0] D cI cZ sz [(h_this, .inr (3, [.int v_count, .ref h_this_signs])), (h_this_signs, .inl (cI, 60, .inl v_signs))] (fun r (u : Unit) => Q p0 v_count v_signs r ) (fun u => [(h_this, .inr (3, [.int v_count, .ref h_this_signs])), (h_this_signs, .inl (cI, 60, .inl v_signs))]) 0 0
set_option maxHeartbeats 4000000 in
set_option maxRecDepth 100000 in
theorem walkX3_kindAt {l : Launch} {D : va_G} {cI cZ : ClassId} {PX3_kindAt : Int32 → Int32 → (Nat → Int32) → Prop} {QX3_kindAt : Int32 → Int32 → (Nat → Int32) → Int32 → Prop} {PX3_signAt : Int32 → Int32 → (Nat → Int32) → Prop} {QX3_signAt : Int32 → Int32 → (Nat → Int32) → Int32 → Prop} (kX3_signAt : KX3_signAt l D cI cZ PX3_signAt QX3_signAt) (hvc : ∀ (p0 : Int32) (v_count : Int32) (v_signs : (Nat → Int32)), PX3_kindAt p0 v_count v_signs → (PX3_signAt p0 v_count v_signs ∧ (∀ (r_1 : Int32), QX3_signAt p0 v_count v_signs r_1  → ((¬ r_1 = (46 : Int32) → (PX3_signAt (p0 + (1 : Int32)) v_count v_signs ∧ (∀ (r_2 : Int32), QX3_signAt (p0 + (1 : Int32)) v_count v_signs r_2  → ((r_2 = (36 : Int32) → (QX3_kindAt p0 v_count v_signs (5 : Int32) )) ∧ (¬ r_2 = (36 : Int32) → ((r_2 = (38 : Int32) → (QX3_kindAt p0 v_count v_signs (3 : Int32) )) ∧ (¬ r_2 = (38 : Int32) → ((r_2 = (42 : Int32) → (QX3_kindAt p0 v_count v_signs (2 : Int32) )) ∧ (¬ r_2 = (42 : Int32) → ((r_2 = (43 : Int32) → (QX3_kindAt p0 v_count v_signs (1 : Int32) )) ∧ (¬ r_2 = (43 : Int32) → ((r_2 = (61 : Int32) → (QX3_kindAt p0 v_count v_signs (4 : Int32) )) ∧ (¬ r_2 = (61 : Int32) → (QX3_kindAt p0 v_count v_signs (0 : Int32) )))))))))))))) ∧ (r_1 = (46 : Int32) → (QX3_kindAt p0 v_count v_signs (6 : Int32) )))))) : KX3_kindAt l D cI cZ PX3_kindAt QX3_kindAt := by
  intro sz h_this h_this_signs p0 v_count v_signs hpre
  have vc := hvc p0 v_count v_signs hpre
  clear hvc
  refine Met.ofW (cc := cX3_kindAt) (maxL := 2) (ret := (some .int)) (by decide) rfl ?_
  intro p e s m args below meth c s₁ B hml hv
  obtain ⟨rfl, hsz, hP, hK, hD0⟩ := hv
  have hx := B.exec
  have hb := B.bytes
  have hr := B.returns
  have hts := atoms_spec (ws := wsX3_kindAt) B.pre
  have hown : s.vm.findClass RX3 = some m.cls := findClass_of_methodNamed B.named
  have hlocks := B.notSynchronized
  subst hsz
  have hD := hD0.self (sz := s.heap.size)
  generalize hAe : va_A [(h_this, .inr (3, [.int v_count, .ref h_this_signs])), (h_this_signs, .inl (cI, 60, .inl v_signs))] s.heap.size = A at hD ⊢
  have hA : ∀ q : Nat, s.heap.size ≤ q → A q := fun q h => by rw [← hAe]; exact Or.inr h
  have hS : va_S A s.heap s.heap [] := va_S.rf
  have hP : va_P D vwCl [(h_this, .inr (3, [.int v_count, .ref h_this_signs])), (h_this_signs, .inl (cI, 60, .inl v_signs))] s.heap := hP
  have hl := lv_entry ([.ref h_this, .int p0]) (n := 2) (Nat.le_of_ble_eq_true rfl)
  rw [lg_entry_eq]
  generalize (lg_sl ([.ref h_this, .int p0]) ++ List.replicate (2 - (lg_sl ([.ref h_this, .int p0])).length) Slot.unset).toArray = ls at hl ⊢
  have hl : lv_has ls 2 [(0, .ref h_this), (1, .int p0)] := hl
  refine lv_aload_n hx hb dX3_kindAt_0 rfl (lv_at hl 0 rfl) ?_
  refine lv_iload_n hx hb dX3_kindAt_1 rfl (lv_at hl 1 rfl) ?_
  refine kj_i (wr := []) (rest := []) (kV ⟨hx, hb, hml, hown, hts⟩ (kX3_signAt _ h_this h_this_signs p0 v_count v_signs vc.1) (cwV 1 hts gX3_kindAt_X3_signAt rfl rfl rfl (by decide +kernel) ⟨(Nat.le_of_ble_eq_true rfl), (Nat.le_of_ble_eq_true rfl)⟩) hK hP hD [0, 1] rfl rfl 0 3 rfl rfl rfl rfl rfl hl.1 (Nat.le_of_ble_eq_true rfl) dX3_kindAt_2 ⟨(Nat.le_of_ble_eq_true rfl), (Nat.le_of_ble_eq_true rfl)⟩) hP hD hS hA [0, 1] [] rfl rfl rfl rfl (fun r_1 u_ H locs hq_ hP hD hS => ?_)
  replace vc := vc.2 r_1  hq_
  have hP : va_P D vwCl [(h_this, .inr (3, [.int v_count, .ref h_this_signs])), (h_this_signs, .inl (cI, 60, .inl v_signs))] H := hP
  have hD : va_D A [(h_this, .inr (3, [.int v_count, .ref h_this_signs])), (h_this_signs, .inl (cI, 60, .inl v_signs))] := hD
  refine lv_bipush (v := (46 : Int32)) hx hb dX3_kindAt_5 (by decide) ?_
  refine lv_icmp_ne (tgt := 13) hx hb dX3_kindAt_7 (by decide) (fun c_ => ?_) (fun c_ => ?_)
  · replace vc := vc.1 c_
    refine lv_aload_n hx hb dX3_kindAt_13 rfl (lv_at hl 0 rfl) ?_
    refine lv_iload_n hx hb dX3_kindAt_14 rfl (lv_at hl 1 rfl) ?_
    refine lv_iconst (v := (1 : Int32)) hx hb dX3_kindAt_15 (by decide) ?_
    refine lv_iadd hx hb dX3_kindAt_16 ?_
    refine kj_i (wr := []) (rest := []) (kV ⟨hx, hb, hml, hown, hts⟩ (kX3_signAt _ h_this h_this_signs (p0 + (1 : Int32)) v_count v_signs vc.1) (cwV 1 hts gX3_kindAt_X3_signAt rfl rfl rfl (by decide +kernel) ⟨(Nat.le_of_ble_eq_true rfl), (Nat.le_of_ble_eq_true rfl)⟩) hK hP hD [0, 1] rfl rfl 0 3 rfl rfl rfl rfl rfl hl.1 (Nat.le_of_ble_eq_true rfl) dX3_kindAt_17 ⟨(Nat.le_of_ble_eq_true rfl), (Nat.le_of_ble_eq_true rfl)⟩) hP hD hS hA [0, 1] [] rfl rfl rfl rfl (fun r_2 u_ H locs hq_ hP hD hS => ?_)
    replace vc := vc.2 r_2  hq_
    have hP : va_P D vwCl [(h_this, .inr (3, [.int v_count, .ref h_this_signs])), (h_this_signs, .inl (cI, 60, .inl v_signs))] H := hP
    have hD : va_D A [(h_this, .inr (3, [.int v_count, .ref h_this_signs])), (h_this_signs, .inl (cI, 60, .inl v_signs))] := hD
    by_cases c1_0 : r_2 = (36 : Int32)
    · replace vc := vc.1 c1_0
      refine lv_lookup (off := 60) (tgt := 80) hx hb dX3_kindAt_20 (by decide) (by rw [c1_0]; decide) (by decide) ?_
      refine lv_iconst (v := (5 : Int32)) hx hb dX3_kindAt_80 (by decide) ?_
      exact W.iret (v := (5 : Int32)) hx hb hr (fun t ht hW => ⟨⟨(5 : Int32), (), rfl, vc, QB_mk (hP.sub [0, 1] rfl) (hD.sub [0, 1] rfl rfl) ht⟩, hS.F ht⟩) hS.2.2 dX3_kindAt_81
    · replace vc := vc.2 c1_0
      by_cases c1_1 : r_2 = (38 : Int32)
      · replace vc := vc.1 c1_1
        refine lv_lookup (off := 56) (tgt := 76) hx hb dX3_kindAt_20 (by decide) (by rw [c1_1]; decide) (by decide) ?_
        refine lv_iconst (v := (3 : Int32)) hx hb dX3_kindAt_76 (by decide) ?_
        exact W.iret (v := (3 : Int32)) hx hb hr (fun t ht hW => ⟨⟨(3 : Int32), (), rfl, vc, QB_mk (hP.sub [0, 1] rfl) (hD.sub [0, 1] rfl rfl) ht⟩, hS.F ht⟩) hS.2.2 dX3_kindAt_77
      · replace vc := vc.2 c1_1
        by_cases c1_2 : r_2 = (42 : Int32)
        · replace vc := vc.1 c1_2
          refine lv_lookup (off := 54) (tgt := 74) hx hb dX3_kindAt_20 (by decide) (by rw [c1_2]; decide) (by decide) ?_
          refine lv_iconst (v := (2 : Int32)) hx hb dX3_kindAt_74 (by decide) ?_
          exact W.iret (v := (2 : Int32)) hx hb hr (fun t ht hW => ⟨⟨(2 : Int32), (), rfl, vc, QB_mk (hP.sub [0, 1] rfl) (hD.sub [0, 1] rfl rfl) ht⟩, hS.F ht⟩) hS.2.2 dX3_kindAt_75
        · replace vc := vc.2 c1_2
          by_cases c1_3 : r_2 = (43 : Int32)
          · replace vc := vc.1 c1_3
            refine lv_lookup (off := 52) (tgt := 72) hx hb dX3_kindAt_20 (by decide) (by rw [c1_3]; decide) (by decide) ?_
            refine lv_iconst (v := (1 : Int32)) hx hb dX3_kindAt_72 (by decide) ?_
            exact W.iret (v := (1 : Int32)) hx hb hr (fun t ht hW => ⟨⟨(1 : Int32), (), rfl, vc, QB_mk (hP.sub [0, 1] rfl) (hD.sub [0, 1] rfl rfl) ht⟩, hS.F ht⟩) hS.2.2 dX3_kindAt_73
          · replace vc := vc.2 c1_3
            by_cases c1_4 : r_2 = (61 : Int32)
            · replace vc := vc.1 c1_4
              refine lv_lookup (off := 58) (tgt := 78) hx hb dX3_kindAt_20 (by decide) (by rw [c1_4]; decide) (by decide) ?_
              refine lv_iconst (v := (4 : Int32)) hx hb dX3_kindAt_78 (by decide) ?_
              exact W.iret (v := (4 : Int32)) hx hb hr (fun t ht hW => ⟨⟨(4 : Int32), (), rfl, vc, QB_mk (hP.sub [0, 1] rfl) (hD.sub [0, 1] rfl rfl) ht⟩, hS.F ht⟩) hS.2.2 dX3_kindAt_79
            · replace vc := vc.2 c1_4
              refine lv_lookup (off := 62) (tgt := 82) hx hb dX3_kindAt_20 (by decide) (by show Op.lookupswitch.offset [(36, 60), (38, 56), (42, 54), (43, 52), (61, 58)] _ _ = _; rw [lv_osw c1_0 (by decide), lv_osw c1_1 (by decide), lv_osw c1_2 (by decide), lv_osw c1_3 (by decide), lv_osw c1_4 (by decide)]; rfl) (by decide) ?_
              refine lv_iconst (v := (0 : Int32)) hx hb dX3_kindAt_82 (by decide) ?_
              exact W.iret (v := (0 : Int32)) hx hb hr (fun t ht hW => ⟨⟨(0 : Int32), (), rfl, vc, QB_mk (hP.sub [0, 1] rfl) (hD.sub [0, 1] rfl rfl) ht⟩, hS.F ht⟩) hS.2.2 dX3_kindAt_83
  · replace vc := vc.2 c_
    refine lv_bipush (v := (6 : Int32)) hx hb dX3_kindAt_10 (by decide) ?_
    exact W.iret (v := (6 : Int32)) hx hb hr (fun t ht hW => ⟨⟨(6 : Int32), (), rfl, vc, QB_mk (hP.sub [0, 1] rfl) (hD.sub [0, 1] rfl rfl) ht⟩, hS.F ht⟩) hS.2.2 dX3_kindAt_12
