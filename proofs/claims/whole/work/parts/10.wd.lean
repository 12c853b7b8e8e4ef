def KX3_lengthAt (l : Launch) (D : va_G) (cI cZ : ClassId) (P : Int32 → Int32 → (Nat → Int32) → Prop) (Q : Int32 → Int32 → (Nat → Int32) → Int32 → Prop) : Prop := ∀ (sz : Nat) (h_this h_this_signs : Nat) (p0 : Int32) (v_count : Int32) (v_signs : (Nat → Int32)), P p0 v_count v_signs → MI l yX3_lengthAt wsX3_lengthAt ({ frames := 2, cells := 0, slots := 0, locals := 42 }) [.ref h_this, .int p0] D cI cZ sz [(h_this, .inr (3, [.int v_count, .ref h_this_signs])), (h_this_signs, .inl (cI, 60, .inl v_signs))] (fun r (u : Unit) => Q p0 v_count v_signs r ) (fun u => [(h_this, .inr (3, [.int v_count, .ref h_this_signs])), (h_this_signs, .inl (cI, 60, .inl v_signs))]) 0 0
set_option maxHeartbeats 4000000 in
set_option maxRecDepth 100000 in
theorem walkX3_lengthAt {l : Launch} {D : va_G} {cI cZ : ClassId} {PX3_lengthAt : Int32 → Int32 → (Nat → Int32) → Prop} {QX3_lengthAt : Int32 → Int32 → (Nat → Int32) → Int32 → Prop} {PX3_kindAt : Int32 → Int32 → (Nat → Int32) → Prop} {QX3_kindAt : Int32 → Int32 → (Nat → Int32) → Int32 → Prop} (kX3_kindAt : KX3_kindAt l D cI cZ PX3_kindAt QX3_kindAt) (hvc : ∀ (p0 : Int32) (v_count : Int32) (v_signs : (Nat → Int32)), PX3_lengthAt p0 v_count v_signs → (PX3_kindAt p0 v_count v_signs ∧ (∀ (r_1 : Int32), QX3_kindAt p0 v_count v_signs r_1  → ((r_1 = (2 : Int32) → (QX3_lengthAt p0 v_count v_signs (3 : Int32) )) ∧ (¬ r_1 = (2 : Int32) → ((r_1 = (3 : Int32) → (QX3_lengthAt p0 v_count v_signs (3 : Int32) )) ∧ (¬ r_1 = (3 : Int32) → ((r_1 = (4 : Int32) → (QX3_lengthAt p0 v_count v_signs (3 : Int32) )) ∧ (¬ r_1 = (4 : Int32) → ((r_1 = (5 : Int32) → (QX3_lengthAt p0 v_count v_signs (2 : Int32) )) ∧ (¬ r_1 = (5 : Int32) → ((r_1 = (6 : Int32) → (QX3_lengthAt p0 v_count v_signs (1 : Int32) )) ∧ (¬ r_1 = (6 : Int32) → (QX3_lengthAt p0 v_count v_signs (2 : Int32) )))))))))))))) : KX3_lengthAt l D cI cZ PX3_lengthAt QX3_lengthAt := by
  intro sz h_this h_this_signs p0 v_count v_signs hpre
  have vc := hvc p0 v_count v_signs hpre
  clear hvc
  refine Met.ofW (cc := cX3_lengthAt) (maxL := 2) (ret := (some .int)) (by decide) rfl ?_
  intro p e s m args below meth c s₁ B hml hv
  obtain ⟨rfl, hsz, hP, hK, hD0⟩ := hv
  have hx := B.exec
  have hb := B.bytes
  have hr := B.returns
  have hts := atoms_spec (ws := wsX3_lengthAt) B.pre
  have hown : s.vm.findClass RX3 = some m.cls := findClass_of_methodNamed B.named
  have hlocks := B.notSynchronized
  subst hsz
  have hD := hD0.self (sz := s.heap.size)
  generalize hAe : va_A [(h_this, .inr (3, [.int v_count, .ref h_this_signs])), (h_this_signs, .inl (cI, 60, .inl v_signs))] s.heap.size = A at hD ⊢
  have hA : ∀ q : Nat, s.heap.size ≤ q → A q := fun q h => by rw [← hAe]; exact Or.inr h
  have hS : va_S A s.heap s.heap [] := va_S.rf
  have hP : va_P D vwCl [(h_this, .inr (3, [.int v_count, .ref h_this_signs])), (h_this_signs, .inl (cI, 60, .inl v_signs))] s.heap := hP
  have hl := lv_entry ([.ref h_this, .int p0]) (n := 2) (Nat.le_of_ble_eq_true rfl)
  rw [lg_entry_eq]
  generalize (lg_sl ([.ref h_this, .int p0]) ++ List.replicate (2 - (lg_sl ([.ref h_this, .int p0])).length) Slot.unset).toArray = ls at hl ⊢
  have hl : lv_has ls 2 [(0, .ref h_this), (1, .int p0)] := hl
  refine lv_aload_n hx hb dX3_lengthAt_0 rfl (lv_at hl 0 rfl) ?_
  refine lv_iload_n hx hb dX3_lengthAt_1 rfl (lv_at hl 1 rfl) ?_
  refine kj_i (wr := []) (rest := []) (kV ⟨hx, hb, hml, hown, hts⟩ (kX3_kindAt _ h_this h_this_signs p0 v_count v_signs vc.1) (cwV 1 hts gX3_lengthAt_X3_kindAt rfl rfl rfl (by decide +kernel) ⟨(Nat.le_of_ble_eq_true rfl), (Nat.le_of_ble_eq_true rfl)⟩) hK hP hD [0, 1] rfl rfl 0 3 rfl rfl rfl rfl rfl hl.1 (Nat.le_of_ble_eq_true rfl) dX3_lengthAt_2 ⟨(Nat.le_of_ble_eq_true rfl), (Nat.le_of_ble_eq_true rfl)⟩) hP hD hS hA [0, 1] [] rfl rfl rfl rfl (fun r_1 u_ H locs hq_ hP hD hS => ?_)
  replace vc := vc.2 r_1  hq_
  have hP : va_P D vwCl [(h_this, .inr (3, [.int v_count, .ref h_this_signs])), (h_this_signs, .inl (cI, 60, .inl v_signs))] H := hP
  have hD : va_D A [(h_this, .inr (3, [.int v_count, .ref h_this_signs])), (h_this_signs, .inl (cI, 60, .inl v_signs))] := hD
  by_cases c1_0 : r_1 = (2 : Int32)
  · replace vc := vc.1 c1_0
    refine lv_tableIn (off := 37) (tgt := 42) hx hb dX3_lengthAt_5 (by rw [c1_0]; decide) (by rw [c1_0]; decide) (by rw [c1_0]; rfl) (by decide) ?_
    refine lv_iconst (v := (3 : Int32)) hx hb dX3_lengthAt_42 (by decide) ?_
    exact W.iret (v := (3 : Int32)) hx hb hr (fun t ht hW => ⟨⟨(3 : Int32), (), rfl, vc, QB_mk (hP.sub [0, 1] rfl) (hD.sub [0, 1] rfl rfl) ht⟩, hS.F ht⟩) hS.2.2 dX3_lengthAt_43
  · replace vc := vc.2 c1_0
    by_cases c1_1 : r_1 = (3 : Int32)
    · replace vc := vc.1 c1_1
      refine lv_tableIn (off := 37) (tgt := 42) hx hb dX3_lengthAt_5 (by rw [c1_1]; decide) (by rw [c1_1]; decide) (by rw [c1_1]; rfl) (by decide) ?_
      refine lv_iconst (v := (3 : Int32)) hx hb dX3_lengthAt_42 (by decide) ?_
      exact W.iret (v := (3 : Int32)) hx hb hr (fun t ht hW => ⟨⟨(3 : Int32), (), rfl, vc, QB_mk (hP.sub [0, 1] rfl) (hD.sub [0, 1] rfl rfl) ht⟩, hS.F ht⟩) hS.2.2 dX3_lengthAt_43
    · replace vc := vc.2 c1_1
      by_cases c1_2 : r_1 = (4 : Int32)
      · replace vc := vc.1 c1_2
        refine lv_tableIn (off := 37) (tgt := 42) hx hb dX3_lengthAt_5 (by rw [c1_2]; decide) (by rw [c1_2]; decide) (by rw [c1_2]; rfl) (by decide) ?_
        refine lv_iconst (v := (3 : Int32)) hx hb dX3_lengthAt_42 (by decide) ?_
        exact W.iret (v := (3 : Int32)) hx hb hr (fun t ht hW => ⟨⟨(3 : Int32), (), rfl, vc, QB_mk (hP.sub [0, 1] rfl) (hD.sub [0, 1] rfl rfl) ht⟩, hS.F ht⟩) hS.2.2 dX3_lengthAt_43
      · replace vc := vc.2 c1_2
        by_cases c1_3 : r_1 = (5 : Int32)
        · replace vc := vc.1 c1_3
          refine lv_tableIn (off := 39) (tgt := 44) hx hb dX3_lengthAt_5 (by rw [c1_3]; decide) (by rw [c1_3]; decide) (by rw [c1_3]; rfl) (by decide) ?_
          refine lv_iconst (v := (2 : Int32)) hx hb dX3_lengthAt_44 (by decide) ?_
          exact W.iret (v := (2 : Int32)) hx hb hr (fun t ht hW => ⟨⟨(2 : Int32), (), rfl, vc, QB_mk (hP.sub [0, 1] rfl) (hD.sub [0, 1] rfl rfl) ht⟩, hS.F ht⟩) hS.2.2 dX3_lengthAt_45
        · replace vc := vc.2 c1_3
          by_cases c1_4 : r_1 = (6 : Int32)
          · replace vc := vc.1 c1_4
            refine lv_tableIn (off := 35) (tgt := 40) hx hb dX3_lengthAt_5 (by rw [c1_4]; decide) (by rw [c1_4]; decide) (by rw [c1_4]; rfl) (by decide) ?_
            refine lv_iconst (v := (1 : Int32)) hx hb dX3_lengthAt_40 (by decide) ?_
            exact W.iret (v := (1 : Int32)) hx hb hr (fun t ht hW => ⟨⟨(1 : Int32), (), rfl, vc, QB_mk (hP.sub [0, 1] rfl) (hD.sub [0, 1] rfl rfl) ht⟩, hS.F ht⟩) hS.2.2 dX3_lengthAt_41
          · replace vc := vc.2 c1_4
            refine lv_tableOut (tgt := 44) hx hb dX3_lengthAt_5 (by have q0_ := neT c1_0 (n := 2) (by decide); have q1_ := neT c1_1 (n := 3) (by decide); have q2_ := neT c1_2 (n := 4) (by decide); have q3_ := neT c1_3 (n := 5) (by decide); have q4_ := neT c1_4 (n := 6) (by decide); omega) (by decide) ?_
            refine lv_iconst (v := (2 : Int32)) hx hb dX3_lengthAt_44 (by decide) ?_
            exact W.iret (v := (2 : Int32)) hx hb hr (fun t ht hW => ⟨⟨(2 : Int32), (), rfl, vc, QB_mk (hP.sub [0, 1] rfl) (hD.sub [0, 1] rfl rfl) ht⟩, hS.F ht⟩) hS.2.2 dX3_lengthAt_45

theorem mwX3_firstFault_1 : Cond.fieldLink RX3 9 "HassockSee$Pad" "count" "I" ∈ wsX3_firstFault := List.mem_of_getElem? (i := 1) rfl
theorem mcX3_firstFault_X3 : ∀ w ∈ u_ws RX3 TX3 2, w ∈ wsX3_firstFault := fun _ h => (List.mem_cons_of_mem _ (List.mem_append_right _ h))
def KX3_firstFault (l : Launch) (D : va_G) (cI cZ : ClassId) (P : Int32 → (Nat → Int32) → Prop) (Q : Int32 → (Nat → Int32) → Int32 → Prop) : Prop := ∀ (sz : Nat) (h_this h_this_signs : Nat) (v_count : Int32) (v_signs : (Nat → Int32)), P v_count v_signs → MI l yX3_firstFault wsX3_firstFault ({ frames := 3, cells := 0, slots := 0, locals := 64 }) [.ref h_this] D cI cZ sz [(h_this, .inr (3, [.int v_count, .ref h_this_signs])), (h_this_signs, .inl (cI, 60, .inl v_signs))] (fun r (u : Unit) => Q v_count v_signs r ) (fun u => [(h_this, .inr (3, [.int v_count, .ref h_this_signs])), (h_this_signs, .inl (cI, 60, .inl v_signs))]) 0 0
set_option maxHeartbeats 4000000 in
set_option maxRecDepth 100000 in
theorem walkX3_firstFault {l : Launch} {D : va_G} {cI cZ : ClassId} {PX3_firstFault : Int32 → (Nat → Int32) → Prop} {QX3_firstFault : Int32 → (Nat → Int32) → Int32 → Prop} {PX3_faultOfAct : Int32 → Int32 → (Nat → Int32) → Prop} {QX3_faultOfAct : Int32 → Int32 → (Nat → Int32) → Int32 → Prop} {PX3_lengthAt : Int32 → Int32 → (Nat → Int32) → Prop} {QX3_lengthAt : Int32 → Int32 → (Nat → Int32) → Int32 → Prop} (kX3_faultOfAct : KX3_faultOfAct l D cI cZ PX3_faultOfAct QX3_faultOfAct) (kX3_lengthAt : KX3_lengthAt l D cI cZ PX3_lengthAt QX3_lengthAt) (IX3_firstFault_4 : Int32 → (Nat → Int32) → Nat → Int32 → Int32 → Prop) (hvc : ∀ (v_count : Int32) (v_signs : (Nat → Int32)), PX3_firstFault v_count v_signs → ((∃ n0 : Nat, IX3_firstFault_4 v_count v_signs n0 (0 : Int32) (0 : Int32)) ∧ (∀ (n_1 : Nat) (i_2 : Int32) (i_3 : Int32), (IX3_firstFault_4 v_count v_signs n_1 i_2 i_3 → (((60 : Int32) ≤ i_3 → (QX3_firstFault v_count v_signs (-6 : Int32) )) ∧ (¬ (60 : Int32) ≤ i_3 → ((v_count ≤ i_2 → (QX3_firstFault v_count v_signs (-6 : Int32) )) ∧ (¬ v_count ≤ i_2 → (PX3_faultOfAct i_2 v_count v_signs ∧ (∀ (r_4 : Int32), QX3_faultOfAct i_2 v_count v_signs r_4  → ((r_4 = (-6 : Int32) → (PX3_lengthAt i_2 v_count v_signs ∧ (∀ (r_5 : Int32), QX3_lengthAt i_2 v_count v_signs r_5  → (∀ x_6 : Int32, x_6 = (i_2 + r_5) → (∀ x_7 : Int32, x_7 = (i_3 + (1 : Int32)) → (∃ n1 : Nat, n1 < n_1 ∧ IX3_firstFault_4 v_count v_signs n1 x_6 x_7)))))) ∧ (¬ r_4 = (-6 : Int32) → (QX3_firstFault v_count v_signs r_4 ))))))))))))) : KX3_firstFault l D cI cZ PX3_firstFault QX3_firstFault := by
  intro sz h_this h_this_signs v_count v_signs hpre
  have vc := hvc v_count v_signs hpre
  clear hvc
  refine Met.ofW (cc := cX3_firstFault) (maxL := 4) (ret := (some .int)) (by decide) rfl ?_
  intro p e s m args below meth c s₁ B hml hv
  obtain ⟨rfl, hsz, hP, hK, hD0⟩ := hv
  have hx := B.exec
  have hb := B.bytes
  have hr := B.returns
  have hts := atoms_spec (ws := wsX3_firstFault) B.pre
  have hown : s.vm.findClass RX3 = some m.cls := findClass_of_methodNamed B.named
  have hlocks := B.notSynchronized
  subst hsz
  have hD := hD0.self (sz := s.heap.size)
  generalize hAe : va_A [(h_this, .inr (3, [.int v_count, .ref h_this_signs])), (h_this_signs, .inl (cI, 60, .inl v_signs))] s.heap.size = A at hD ⊢
  have hA : ∀ q : Nat, s.heap.size ≤ q → A q := fun q h => by rw [← hAe]; exact Or.inr h
  have hS : va_S A s.heap s.heap [] := va_S.rf
  have hP : va_P D vwCl [(h_this, .inr (3, [.int v_count, .ref h_this_signs])), (h_this_signs, .inl (cI, 60, .inl v_signs))] s.heap := hP
  have hl := lv_entry ([.ref h_this]) (n := 4) (Nat.le_of_ble_eq_true rfl)
  rw [lg_entry_eq]
  generalize (lg_sl ([.ref h_this]) ++ List.replicate (4 - (lg_sl ([.ref h_this])).length) Slot.unset).toArray = ls at hl ⊢
  have hl : lv_has ls 4 [(0, .ref h_this)] := hl
  refine lv_iconst (v := (0 : Int32)) hx hb dX3_firstFault_0 (by decide) ?_
  refine lv_istore_n (lv' := [(1, .int (0 : Int32)), (0, .ref h_this)]) hx hb dX3_firstFault_1 rfl hl (by decide) rfl (fun ls hl => ?_)
  refine lv_iconst (v := (0 : Int32)) hx hb dX3_firstFault_2 (by decide) ?_
  refine lv_istore_n (lv' := [(2, .int (0 : Int32)), (1, .int (0 : Int32)), (0, .ref h_this)]) hx hb dX3_firstFault_3 rfl hl (by decide) rfl (fun ls hl => ?_)
  obtain ⟨⟨n0_1, hi0_1⟩, vc⟩ := vc
  refine kloop (V := Int32 × Int32) (I := fun n v => IX3_firstFault_4 v_count v_signs n (v.1) (v.2)) (wv := fun v => [(h_this, .inr (3, [.int v_count, .ref h_this_signs])), (h_this_signs, .inl (cI, 60, .inl v_signs))]) (lv := fun v => [(0, .ref h_this), (1, .int (v.1)), (2, .int (v.2))]) n0_1 ((0 : Int32), (0 : Int32)) hi0_1 hP hD hS (lv_sub hl [2, 1, 0] rfl) ?_
  intro n_1 v_1 hi_1 ih_1 H locs hP hD hS ls hl
  obtain ⟨i_2, i_3⟩ := v_1
  replace vc := vc n_1 i_2 i_3 hi_1
  have hP : va_P D vwCl [(h_this, .inr (3, [.int v_count, .ref h_this_signs])), (h_this_signs, .inl (cI, 60, .inl v_signs))] H := hP
  have hD : va_D A [(h_this, .inr (3, [.int v_count, .ref h_this_signs])), (h_this_signs, .inl (cI, 60, .inl v_signs))] := hD
  have hl : lv_has ls 4 [(0, .ref h_this), (1, .int i_2), (2, .int i_3)] := hl
  refine lv_iload_n hx hb dX3_firstFault_4 rfl (lv_at hl 2 rfl) ?_
  refine lv_bipush (v := (60 : Int32)) hx hb dX3_firstFault_5 (by decide) ?_
  refine lv_icmp_ge (tgt := 46) hx hb dX3_firstFault_7 (by decide) (fun c_ => ?_) (fun c_ => ?_)
  · replace vc := vc.1 c_
    refine lv_bipush (v := (-6 : Int32)) hx hb dX3_firstFault_46 (by decide) ?_
    exact W.iret (v := (-6 : Int32)) hx hb hr (fun t ht hW => ⟨⟨(-6 : Int32), (), rfl, vc, QB_mk (hP.sub [0, 1] rfl) (hD.sub [0, 1] rfl rfl) ht⟩, hS.F ht⟩) hS.2.2 dX3_firstFault_48
  · replace vc := vc.2 c_
    refine lv_iload_n hx hb dX3_firstFault_10 rfl (lv_at hl 1 rfl) ?_
    refine lv_aload_n hx hb dX3_firstFault_11 rfl (lv_at hl 0 rfl) ?_
    refine va_get (D := D) (ci := 3) (v := .int v_count) (C := RX3) (T := TX3) (N := 2) hx hb hts mcX3_firstFault_X3 hown hK.1 hP 0 rfl rfl 0 (by decide) (hts _ mwX3_firstFault_1) (fun _ h9 => h9) rfl dX3_firstFault_12 ?_
    refine lv_icmp_ge (tgt := 46) hx hb dX3_firstFault_15 (by decide) (fun c_ => ?_) (fun c_ => ?_)
    · replace vc := vc.1 c_
      refine lv_bipush (v := (-6 : Int32)) hx hb dX3_firstFault_46 (by decide) ?_
      exact W.iret (v := (-6 : Int32)) hx hb hr (fun t ht hW => ⟨⟨(-6 : Int32), (), rfl, vc, QB_mk (hP.sub [0, 1] rfl) (hD.sub [0, 1] rfl rfl) ht⟩, hS.F ht⟩) hS.2.2 dX3_firstFault_48
    · replace vc := vc.2 c_
      refine lv_aload_n hx hb dX3_firstFault_18 rfl (lv_at hl 0 rfl) ?_
      refine lv_iload_n hx hb dX3_firstFault_19 rfl (lv_at hl 1 rfl) ?_
      refine kj_i (wr := []) (rest := []) (kV ⟨hx, hb, hml, hown, hts⟩ (kX3_faultOfAct _ h_this h_this_signs i_2 v_count v_signs vc.1) (cwV 1 hts gX3_firstFault_X3_faultOfAct rfl rfl rfl (by decide +kernel) ⟨(Nat.le_of_ble_eq_true rfl), (Nat.le_of_ble_eq_true rfl)⟩) hK hP hD [0, 1] rfl rfl 0 3 rfl rfl rfl rfl rfl hl.1 (Nat.le_of_ble_eq_true rfl) dX3_firstFault_20 ⟨(Nat.le_of_ble_eq_true rfl), (Nat.le_of_ble_eq_true rfl)⟩) hP hD hS hA [0, 1] [] rfl rfl rfl rfl (fun r_4 u_ H locs hq_ hP hD hS => ?_)
      replace vc := vc.2 r_4  hq_
      have hP : va_P D vwCl [(h_this, .inr (3, [.int v_count, .ref h_this_signs])), (h_this_signs, .inl (cI, 60, .inl v_signs))] H := hP
      have hD : va_D A [(h_this, .inr (3, [.int v_count, .ref h_this_signs])), (h_this_signs, .inl (cI, 60, .inl v_signs))] := hD
      refine lv_istore_n (lv' := [(3, .int r_4), (0, .ref h_this), (1, .int i_2), (2, .int i_3)]) hx hb dX3_firstFault_23 rfl hl (by decide) rfl (fun ls hl => ?_)
      refine lv_iload_n hx hb dX3_firstFault_24 rfl (lv_at hl 0 rfl) ?_
      refine lv_bipush (v := (-6 : Int32)) hx hb dX3_firstFault_25 (by decide) ?_
      refine lv_icmp_eq (tgt := 32) hx hb dX3_firstFault_27 (by decide) (fun c_ => ?_) (fun c_ => ?_)
      · replace vc := vc.1 c_
        refine lv_iload_n hx hb dX3_firstFault_32 rfl (lv_at hl 2 rfl) ?_
        refine lv_aload_n hx hb dX3_firstFault_33 rfl (lv_at hl 1 rfl) ?_
        refine lv_iload_n hx hb dX3_firstFault_34 rfl (lv_at hl 2 rfl) ?_
        refine kj_i (wr := []) (rest := [.int i_2]) (kV ⟨hx, hb, hml, hown, hts⟩ (kX3_lengthAt _ h_this h_this_signs i_2 v_count v_signs vc.1) (cwV 1 hts gX3_firstFault_X3_lengthAt rfl rfl rfl (by decide +kernel) ⟨(Nat.le_of_ble_eq_true rfl), (Nat.le_of_ble_eq_true rfl)⟩) hK hP hD [0, 1] rfl rfl 0 3 rfl rfl rfl rfl rfl hl.1 (Nat.le_of_ble_eq_true rfl) dX3_firstFault_35 ⟨(Nat.le_of_ble_eq_true rfl), (Nat.le_of_ble_eq_true rfl)⟩) hP hD hS hA [0, 1] [] rfl rfl rfl rfl (fun r_5 u_ H locs hq_ hP hD hS => ?_)
        replace vc := vc.2 r_5  hq_
        have hP : va_P D vwCl [(h_this, .inr (3, [.int v_count, .ref h_this_signs])), (h_this_signs, .inl (cI, 60, .inl v_signs))] H := hP
        have hD : va_D A [(h_this, .inr (3, [.int v_count, .ref h_this_signs])), (h_this_signs, .inl (cI, 60, .inl v_signs))] := hD
        refine lv_iadd hx hb dX3_firstFault_38 ?_
        refine lv_topi (fun x_6 ex_6 => ?_)
        replace vc := vc x_6 ex_6
        refine lv_istore_n (lv' := [(1, .int x_6), (3, .int r_4), (0, .ref h_this), (2, .int i_3)]) hx hb dX3_firstFault_39 rfl hl (by decide) rfl (fun ls hl => ?_)
        obtain ⟨x_7, ex_7⟩ : ∃ y_ : Int32, y_ = (i_3 + (1 : Int32)) := ⟨_, rfl⟩
        replace vc := vc x_7 ex_7
        refine lv_iinc (v := x_7) (lv' := [(2, .int x_7), (1, .int x_6), (3, .int r_4), (0, .ref h_this)]) hx hb dX3_firstFault_40 hl (k := 3) rfl (by rw [ex_7]; rfl) (by decide) rfl (fun ls hl => ?_)
        refine lv_goto (tgt := 4) hx hb dX3_firstFault_43 (by decide) ?_
        obtain ⟨n1_, hlt_, hi_⟩ := vc
        exact ih_1 n1_ (x_6, x_7) hlt_ hi_ _ _ hP hD hS ls (lv_sub hl [3, 1, 0] rfl)
      · replace vc := vc.2 c_
        refine lv_iload_n hx hb dX3_firstFault_30 rfl (lv_at hl 0 rfl) ?_
        exact W.iret (v := r_4) hx hb hr (fun t ht hW => ⟨⟨r_4, (), rfl, vc, QB_mk (hP.sub [0, 1] rfl) (hD.sub [0, 1] rfl rfl) ht⟩, hS.F ht⟩) hS.2.2 dX3_firstFault_31

def KX3_whoAt (l : Launch) (D : va_G) (cI cZ : ClassId) (P : Int32 → Int32 → (Nat → Int32) → Prop) (Q : Int32 → Int32 → (Nat → Int32) → Int32 → Prop) : Prop := ∀ (sz : Nat) (h_this h_this_signs : Nat) (p0 : Int32) (v_count : Int32) (v_signs : (Nat → Int32)), P p0 v_count v_signs → MI l yX3_whoAt wsX3_whoAt ({ frames := 1, cells := 0, slots := 0, locals := 21 }) [.ref h_this, .int p0] D cI cZ sz [(h_this, .inr (3, [.int v_count, .ref h_this_signs])), (h_this_signs, .inl (cI, 60, .inl v_signs))] (fun r (u : Unit) => Q p0 v_count v_signs r ) (fun u => [(h_this, .inr (3, [.int v_count, .ref h_this_signs])), (h_this_signs, .inl (cI, 60, .inl v_signs))]) 0 0
set_option maxHeartbeats 4000000 in
set_option maxRecDepth 100000 in
theorem walkX3_whoAt {l : Launch} {D : va_G} {cI cZ : ClassId} {PX3_whoAt : Int32 → Int32 → (Nat → Int32) → Prop} {QX3_whoAt : Int32 → Int32 → (Nat → Int32) → Int32 → Prop} {PX3_signAt : Int32 → Int32 → (Nat → Int32) → Prop} {QX3_signAt : Int32 → Int32 → (Nat → Int32) → Int32 → Prop} (kX3_signAt : KX3_signAt l D cI cZ PX3_signAt QX3_signAt) (hvc : ∀ (p0 : Int32) (v_count : Int32) (v_signs : (Nat → Int32)), PX3_whoAt p0 v_count v_signs → (PX3_signAt p0 v_count v_signs ∧ (∀ (r_1 : Int32), QX3_signAt p0 v_count v_signs r_1  → (QX3_whoAt p0 v_count v_signs (r_1 - (65 : Int32)) )))) : KX3_whoAt l D cI cZ PX3_whoAt QX3_whoAt := by
  intro sz h_this h_this_signs p0 v_count v_signs hpre
  have vc := hvc p0 v_count v_signs hpre
  clear hvc
  refine Met.ofW (cc := cX3_whoAt) (maxL := 2) (ret := (some .int)) (by decide) rfl ?_
  intro p e s m args below meth c s₁ B hml hv
  obtain ⟨rfl, hsz, hP, hK, hD0⟩ := hv
  have hx := B.exec
  have hb := B.bytes
  have hr := B.returns
  have hts := atoms_spec (ws := wsX3_whoAt) B.pre
  have hown : s.vm.findClass RX3 = some m.cls := findClass_of_methodNamed B.named
  have hlocks := B.notSynchronized
  subst hsz
  have hD := hD0.self (sz := s.heap.size)
  generalize hAe : va_A [(h_this, .inr (3, [.int v_count, .ref h_this_signs])), (h_this_signs, .inl (cI, 60, .inl v_signs))] s.heap.size = A at hD ⊢
  have hA : ∀ q : Nat, s.heap.size ≤ q → A q := fun q h => by rw [← hAe]; exact Or.inr h
  have hS : va_S A s.heap s.heap [] := va_S.rf
  have hP : va_P D vwCl [(h_this, .inr (3, [.int v_count, .ref h_this_signs])), (h_this_signs, .inl (cI, 60, .inl v_signs))] s.heap := hP
  have hl := lv_entry ([.ref h_this, .int p0]) (n := 2) (Nat.le_of_ble_eq_true rfl)
  rw [lg_entry_eq]
  generalize (lg_sl ([.ref h_this, .int p0]) ++ List.replicate (2 - (lg_sl ([.ref h_this, .int p0])).length) Slot.unset).toArray = ls at hl ⊢
  have hl : lv_has ls 2 [(0, .ref h_this), (1, .int p0)] := hl
  refine lv_aload_n hx hb dX3_whoAt_0 rfl (lv_at hl 0 rfl) ?_
  refine lv_iload_n hx hb dX3_whoAt_1 rfl (lv_at hl 1 rfl) ?_
  refine kj_i (wr := []) (rest := []) (kV ⟨hx, hb, hml, hown, hts⟩ (kX3_signAt _ h_this h_this_signs p0 v_count v_signs vc.1) (cwV 1 hts gX3_whoAt_X3_signAt rfl rfl rfl (by decide +kernel) ⟨(Nat.le_of_ble_eq_true rfl), (Nat.le_of_ble_eq_true rfl)⟩) hK hP hD [0, 1] rfl rfl 0 3 rfl rfl rfl rfl rfl hl.1 (Nat.le_of_ble_eq_true rfl) dX3_whoAt_2 ⟨(Nat.le_of_ble_eq_true rfl), (Nat.le_of_ble_eq_true rfl)⟩) hP hD hS hA [0, 1] [] rfl rfl rfl rfl (fun r_1 u_ H locs hq_ hP hD hS => ?_)
  replace vc := vc.2 r_1  hq_
  have hP : va_P D vwCl [(h_this, .inr (3, [.int v_count, .ref h_this_signs])), (h_this_signs, .inl (cI, 60, .inl v_signs))] H := hP
  have hD : va_D A [(h_this, .inr (3, [.int v_count, .ref h_this_signs])), (h_this_signs, .inl (cI, 60, .inl v_signs))] := hD
  refine lv_bipush (v := (65 : Int32)) hx hb dX3_whoAt_5 (by decide) ?_
  refine lv_isub hx hb dX3_whoAt_7 ?_
  exact W.iret (v := (r_1 - (65 : Int32))) hx hb hr (fun t ht hW => ⟨⟨(r_1 - (65 : Int32)), (), rfl, vc, QB_mk (hP.sub [0, 1] rfl) (hD.sub [0, 1] rfl rfl) ht⟩, hS.F ht⟩) hS.2.2 dX3_whoAt_8

def KX3_numberAt (l : Launch) (D : va_G) (cI cZ : ClassId) (P : Int32 → Int32 → (Nat → Int32) → Prop) (Q : Int32 → Int32 → (Nat → Int32) → Int32 → Prop) : Prop := ∀ (sz : Nat) (h_this h_this_signs : Nat) (p0 : Int32) (v_count : Int32) (v_signs : (Nat → Int32)), P p0 v_count v_signs → MI l yX3_numberAt wsX3_numberAt ({ frames := 2, cells := 0, slots := 0, locals := 42 }) [.ref h_this, .int p0] D cI cZ sz [(h_this, .inr (3, [.int v_count, .ref h_this_signs])), (h_this_signs, .inl (cI, 60, .inl v_signs))] (fun r (u : Unit) => Q p0 v_count v_signs r ) (fun u => [(h_this, .inr (3, [.int v_count, .ref h_this_signs])), (h_this_signs, .inl (cI, 60, .inl v_signs))]) 0 0
set_option maxHeartbeats 4000000 in
set_option maxRecDepth 100000 in
theorem walkX3_numberAt {l : Launch} {D : va_G} {cI cZ : ClassId} {PX3_numberAt : Int32 → Int32 → (Nat → Int32) → Prop} {QX3_numberAt : Int32 → Int32 → (Nat → Int32) → Int32 → Prop} {PX3_kindAt : Int32 → Int32 → (Nat → Int32) → Prop} {QX3_kindAt : Int32 → Int32 → (Nat → Int32) → Int32 → Prop} {PX3_signAt : Int32 → Int32 → (Nat → Int32) → Prop} {QX3_signAt : Int32 → Int32 → (Nat → Int32) → Int32 → Prop} (kX3_kindAt : KX3_kindAt l D cI cZ PX3_kindAt QX3_kindAt) (kX3_signAt : KX3_signAt l D cI cZ PX3_signAt QX3_signAt) (hvc : ∀ (p0 : Int32) (v_count : Int32) (v_signs : (Nat → Int32)), PX3_numberAt p0 v_count v_signs → (PX3_kindAt p0 v_count v_signs ∧ (∀ (r_1 : Int32), QX3_kindAt p0 v_count v_signs r_1  → ((r_1 = (0 : Int32) → (PX3_signAt (p0 + (1 : Int32)) v_count v_signs ∧ (∀ (r_2 : Int32), QX3_signAt (p0 + (1 : Int32)) v_count v_signs r_2  → (QX3_numberAt p0 v_count v_signs (r_2 - (48 : Int32)) )))) ∧ (¬ r_1 = (0 : Int32) → ((r_1 = (1 : Int32) → (QX3_numberAt p0 v_count v_signs (0 : Int32) )) ∧ (¬ r_1 = (1 : Int32) → ((r_1 = (2 : Int32) → (PX3_signAt (p0 + (2 : Int32)) v_count v_signs ∧ (∀ (r_3 : Int32), QX3_signAt (p0 + (2 : Int32)) v_count v_signs r_3  → (QX3_numberAt p0 v_count v_signs (r_3 - (48 : Int32)) )))) ∧ (¬ r_1 = (2 : Int32) → ((r_1 = (3 : Int32) → (PX3_signAt (p0 + (2 : Int32)) v_count v_signs ∧ (∀ (r_4 : Int32), QX3_signAt (p0 + (2 : Int32)) v_count v_signs r_4  → (QX3_numberAt p0 v_count v_signs (r_4 - (65 : Int32)) )))) ∧ (¬ r_1 = (3 : Int32) → ((r_1 = (4 : Int32) → (PX3_signAt (p0 + (2 : Int32)) v_count v_signs ∧ (∀ (r_5 : Int32), QX3_signAt (p0 + (2 : Int32)) v_count v_signs r_5  → (QX3_numberAt p0 v_count v_signs (r_5 - (65 : Int32)) )))) ∧ (¬ r_1 = (4 : Int32) → (QX3_numberAt p0 v_count v_signs (0 : Int32) )))))))))))))) : KX3_numberAt l D cI cZ PX3_numberAt QX3_numberAt := by
  intro sz h_this h_this_signs p0 v_count v_signs hpre
  have vc := hvc p0 v_count v_signs hpre
  clear hvc
  refine Met.ofW (cc := cX3_numberAt) (maxL := 2) (ret := (some .int)) (by decide) rfl ?_
  intro p e s m args below meth c s₁ B hml hv
  obtain ⟨rfl, hsz, hP, hK, hD0⟩ := hv
  have hx := B.exec
  have hb := B.bytes
  have hr := B.returns
  have hts := atoms_spec (ws := wsX3_numberAt) B.pre
  have hown : s.vm.findClass RX3 = some m.cls := findClass_of_methodNamed B.named
  have hlocks := B.notSynchronized
  subst hsz
  have hD := hD0.self (sz := s.heap.size)
  generalize hAe : va_A [(h_this, .inr (3, [.int v_count, .ref h_this_signs])), (h_this_signs, .inl (cI, 60, .inl v_signs))] s.heap.size = A at hD ⊢
  have hA : ∀ q : Nat, s.heap.size ≤ q → A q := fun q h => by rw [← hAe]; exact Or.inr h
  have hS : va_S A s.heap s.heap [] := va_S.rf
  have hP : va_P D vwCl [(h_this, .inr (3, [.int v_count, .ref h_this_signs])), (h_this_signs, .inl (cI, 60, .inl v_signs))] s.heap := hP
  have hl := lv_entry ([.ref h_this, .int p0]) (n := 2) (Nat.le_of_ble_eq_true rfl)
  rw [lg_entry_eq]
  generalize (lg_sl ([.ref h_this, .int p0]) ++ List.replicate (2 - (lg_sl ([.ref h_this, .int p0])).length) Slot.unset).toArray = ls at hl ⊢
  have hl : lv_has ls 2 [(0, .ref h_this), (1, .int p0)] := hl
  refine lv_aload_n hx hb dX3_numberAt_0 rfl (lv_at hl 0 rfl) ?_
  refine lv_iload_n hx hb dX3_numberAt_1 rfl (lv_at hl 1 rfl) ?_
  refine kj_i (wr := []) (rest := []) (kV ⟨hx, hb, hml, hown, hts⟩ (kX3_kindAt _ h_this h_this_signs p0 v_count v_signs vc.1) (cwV 1 hts gX3_numberAt_X3_kindAt rfl rfl rfl (by decide +kernel) ⟨(Nat.le_of_ble_eq_true rfl), (Nat.le_of_ble_eq_true rfl)⟩) hK hP hD [0, 1] rfl rfl 0 3 rfl rfl rfl rfl rfl hl.1 (Nat.le_of_ble_eq_true rfl) dX3_numberAt_2 ⟨(Nat.le_of_ble_eq_true rfl), (Nat.le_of_ble_eq_true rfl)⟩) hP hD hS hA [0, 1] [] rfl rfl rfl rfl (fun r_1 u_ H locs hq_ hP hD hS => ?_)
  replace vc := vc.2 r_1  hq_
  have hP : va_P D vwCl [(h_this, .inr (3, [.int v_count, .ref h_this_signs])), (h_this_signs, .inl (cI, 60, .inl v_signs))] H := hP
  have hD : va_D A [(h_this, .inr (3, [.int v_count, .ref h_this_signs])), (h_this_signs, .inl (cI, 60, .inl v_signs))] := hD
  by_cases c1_0 : r_1 = (0 : Int32)
  · replace vc := vc.1 c1_0
    refine lv_tableIn (off := 35) (tgt := 40) hx hb dX3_numberAt_5 (by rw [c1_0]; decide) (by rw [c1_0]; decide) (by rw [c1_0]; rfl) (by decide) ?_
    refine lv_aload_n hx hb dX3_numberAt_40 rfl (lv_at hl 0 rfl) ?_
    refine lv_iload_n hx hb dX3_numberAt_41 rfl (lv_at hl 1 rfl) ?_
    refine lv_iconst (v := (1 : Int32)) hx hb dX3_numberAt_42 (by decide) ?_
    refine lv_iadd hx hb dX3_numberAt_43 ?_
    refine kj_i (wr := []) (rest := []) (kV ⟨hx, hb, hml, hown, hts⟩ (kX3_signAt _ h_this h_this_signs (p0 + (1 : Int32)) v_count v_signs vc.1) (cwV 1 hts gX3_numberAt_X3_signAt rfl rfl rfl (by decide +kernel) ⟨(Nat.le_of_ble_eq_true rfl), (Nat.le_of_ble_eq_true rfl)⟩) hK hP hD [0, 1] rfl rfl 0 3 rfl rfl rfl rfl rfl hl.1 (Nat.le_of_ble_eq_true rfl) dX3_numberAt_44 ⟨(Nat.le_of_ble_eq_true rfl), (Nat.le_of_ble_eq_true rfl)⟩) hP hD hS hA [0, 1] [] rfl rfl rfl rfl (fun r_2 u_ H locs hq_ hP hD hS => ?_)
    replace vc := vc.2 r_2  hq_
    have hP : va_P D vwCl [(h_this, .inr (3, [.int v_count, .ref h_this_signs])), (h_this_signs, .inl (cI, 60, .inl v_signs))] H := hP
    have hD : va_D A [(h_this, .inr (3, [.int v_count, .ref h_this_signs])), (h_this_signs, .inl (cI, 60, .inl v_signs))] := hD
    refine lv_bipush (v := (48 : Int32)) hx hb dX3_numberAt_47 (by decide) ?_
    refine lv_isub hx hb dX3_numberAt_49 ?_
    exact W.iret (v := (r_2 - (48 : Int32))) hx hb hr (fun t ht hW => ⟨⟨(r_2 - (48 : Int32)), (), rfl, vc, QB_mk (hP.sub [0, 1] rfl) (hD.sub [0, 1] rfl rfl) ht⟩, hS.F ht⟩) hS.2.2 dX3_numberAt_50
  · replace vc := vc.2 c1_0
    by_cases c1_1 : r_1 = (1 : Int32)
    · replace vc := vc.1 c1_1
      refine lv_tableIn (off := 68) (tgt := 73) hx hb dX3_numberAt_5 (by rw [c1_1]; decide) (by rw [c1_1]; decide) (by rw [c1_1]; rfl) (by decide) ?_
      refine lv_iconst (v := (0 : Int32)) hx hb dX3_numberAt_73 (by decide) ?_
      exact W.iret (v := (0 : Int32)) hx hb hr (fun t ht hW => ⟨⟨(0 : Int32), (), rfl, vc, QB_mk (hP.sub [0, 1] rfl) (hD.sub [0, 1] rfl rfl) ht⟩, hS.F ht⟩) hS.2.2 dX3_numberAt_74
    · replace vc := vc.2 c1_1
      by_cases c1_2 : r_1 = (2 : Int32)
      · replace vc := vc.1 c1_2
        refine lv_tableIn (off := 46) (tgt := 51) hx hb dX3_numberAt_5 (by rw [c1_2]; decide) (by rw [c1_2]; decide) (by rw [c1_2]; rfl) (by decide) ?_
        refine lv_aload_n hx hb dX3_numberAt_51 rfl (lv_at hl 0 rfl) ?_
        refine lv_iload_n hx hb dX3_numberAt_52 rfl (lv_at hl 1 rfl) ?_
        refine lv_iconst (v := (2 : Int32)) hx hb dX3_numberAt_53 (by decide) ?_
        refine lv_iadd hx hb dX3_numberAt_54 ?_
        refine kj_i (wr := []) (rest := []) (kV ⟨hx, hb, hml, hown, hts⟩ (kX3_signAt _ h_this h_this_signs (p0 + (2 : Int32)) v_count v_signs vc.1) (cwV 1 hts gX3_numberAt_X3_signAt rfl rfl rfl (by decide +kernel) ⟨(Nat.le_of_ble_eq_true rfl), (Nat.le_of_ble_eq_true rfl)⟩) hK hP hD [0, 1] rfl rfl 0 3 rfl rfl rfl rfl rfl hl.1 (Nat.le_of_ble_eq_true rfl) dX3_numberAt_55 ⟨(Nat.le_of_ble_eq_true rfl), (Nat.le_of_ble_eq_true rfl)⟩) hP hD hS hA [0, 1] [] rfl rfl rfl rfl (fun r_3 u_ H locs hq_ hP hD hS => ?_)
        replace vc := vc.2 r_3  hq_
        have hP : va_P D vwCl [(h_this, .inr (3, [.int v_count, .ref h_this_signs])), (h_this_signs, .inl (cI, 60, .inl v_signs))] H := hP
        have hD : va_D A [(h_this, .inr (3, [.int v_count, .ref h_this_signs])), (h_this_signs, .inl (cI, 60, .inl v_signs))] := hD
        refine lv_bipush (v := (48 : Int32)) hx hb dX3_numberAt_58 (by decide) ?_
        refine lv_isub hx hb dX3_numberAt_60 ?_
        exact W.iret (v := (r_3 - (48 : Int32))) hx hb hr (fun t ht hW => ⟨⟨(r_3 - (48 : Int32)), (), rfl, vc, QB_mk (hP.sub [0, 1] rfl) (hD.sub [0, 1] rfl rfl) ht⟩, hS.F ht⟩) hS.2.2 dX3_numberAt_61
      · replace vc := vc.2 c1_2
        by_cases c1_3 : r_1 = (3 : Int32)
        · replace vc := vc.1 c1_3
          refine lv_tableIn (off := 57) (tgt := 62) hx hb dX3_numberAt_5 (by rw [c1_3]; decide) (by rw [c1_3]; decide) (by rw [c1_3]; rfl) (by decide) ?_
          refine lv_aload_n hx hb dX3_numberAt_62 rfl (lv_at hl 0 rfl) ?_
          refine lv_iload_n hx hb dX3_numberAt_63 rfl (lv_at hl 1 rfl) ?_
          refine lv_iconst (v := (2 : Int32)) hx hb dX3_numberAt_64 (by decide) ?_
          refine lv_iadd hx hb dX3_numberAt_65 ?_
          refine kj_i (wr := []) (rest := []) (kV ⟨hx, hb, hml, hown, hts⟩ (kX3_signAt _ h_this h_this_signs (p0 + (2 : Int32)) v_count v_signs vc.1) (cwV 1 hts gX3_numberAt_X3_signAt rfl rfl rfl (by decide +kernel) ⟨(Nat.le_of_ble_eq_true rfl), (Nat.le_of_ble_eq_true rfl)⟩) hK hP hD [0, 1] rfl rfl 0 3 rfl rfl rfl rfl rfl hl.1 (Nat.le_of_ble_eq_true rfl) dX3_numberAt_66 ⟨(Nat.le_of_ble_eq_true rfl), (Nat.le_of_ble_eq_true rfl)⟩) hP hD hS hA [0, 1] [] rfl rfl rfl rfl (fun r_4 u_ H locs hq_ hP hD hS => ?_)
          replace vc := vc.2 r_4  hq_
          have hP : va_P D vwCl [(h_this, .inr (3, [.int v_count, .ref h_this_signs])), (h_this_signs, .inl (cI, 60, .inl v_signs))] H := hP
          have hD : va_D A [(h_this, .inr (3, [.int v_count, .ref h_this_signs])), (h_this_signs, .inl (cI, 60, .inl v_signs))] := hD
          refine lv_bipush (v := (65 : Int32)) hx hb dX3_numberAt_69 (by decide) ?_
          refine lv_isub hx hb dX3_numberAt_71 ?_
          exact W.iret (v := (r_4 - (65 : Int32))) hx hb hr (fun t ht hW => ⟨⟨(r_4 - (65 : Int32)), (), rfl, vc, QB_mk (hP.sub [0, 1] rfl) (hD.sub [0, 1] rfl rfl) ht⟩, hS.F ht⟩) hS.2.2 dX3_numberAt_72
        · replace vc := vc.2 c1_3
          by_cases c1_4 : r_1 = (4 : Int32)
          · replace vc := vc.1 c1_4
            refine lv_tableIn (off := 57) (tgt := 62) hx hb dX3_numberAt_5 (by rw [c1_4]; decide) (by rw [c1_4]; decide) (by rw [c1_4]; rfl) (by decide) ?_
            refine lv_aload_n hx hb dX3_numberAt_62 rfl (lv_at hl 0 rfl) ?_
            refine lv_iload_n hx hb dX3_numberAt_63 rfl (lv_at hl 1 rfl) ?_
            refine lv_iconst (v := (2 : Int32)) hx hb dX3_numberAt_64 (by decide) ?_
            refine lv_iadd hx hb dX3_numberAt_65 ?_
            refine kj_i (wr := []) (rest := []) (kV ⟨hx, hb, hml, hown, hts⟩ (kX3_signAt _ h_this h_this_signs (p0 + (2 : Int32)) v_count v_signs vc.1) (cwV 1 hts gX3_numberAt_X3_signAt rfl rfl rfl (by decide +kernel) ⟨(Nat.le_of_ble_eq_true rfl), (Nat.le_of_ble_eq_true rfl)⟩) hK hP hD [0, 1] rfl rfl 0 3 rfl rfl rfl rfl rfl hl.1 (Nat.le_of_ble_eq_true rfl) dX3_numberAt_66 ⟨(Nat.le_of_ble_eq_true rfl), (Nat.le_of_ble_eq_true rfl)⟩) hP hD hS hA [0, 1] [] rfl rfl rfl rfl (fun r_5 u_ H locs hq_ hP hD hS => ?_)
            replace vc := vc.2 r_5  hq_
            have hP : va_P D vwCl [(h_this, .inr (3, [.int v_count, .ref h_this_signs])), (h_this_signs, .inl (cI, 60, .inl v_signs))] H := hP
            have hD : va_D A [(h_this, .inr (3, [.int v_count, .ref h_this_signs])), (h_this_signs, .inl (cI, 60, .inl v_signs))] := hD
            refine lv_bipush (v := (65 : Int32)) hx hb dX3_numberAt_69 (by decide) ?_
            refine lv_isub hx hb dX3_numberAt_71 ?_
            exact W.iret (v := (r_5 - (65 : Int32))) hx hb hr (fun t ht hW => ⟨⟨(r_5 - (65 : Int32)), (), rfl, vc, QB_mk (hP.sub [0, 1] rfl) (hD.sub [0, 1] rfl rfl) ht⟩, hS.F ht⟩) hS.2.2 dX3_numberAt_72
          · replace vc := vc.2 c1_4
            refine lv_tableOut (tgt := 73) hx hb dX3_numberAt_5 (by have q0_ := neT c1_0 (n := 0) (by decide); have q1_ := neT c1_1 (n := 1) (by decide); have q2_ := neT c1_2 (n := 2) (by decide); have q3_ := neT c1_3 (n := 3) (by decide); have q4_ := neT c1_4 (n := 4) (by decide); omega) (by decide) ?_
            refine lv_iconst (v := (0 : Int32)) hx hb dX3_numberAt_73 (by decide) ?_
            exact W.iret (v := (0 : Int32)) hx hb hr (fun t ht hW => ⟨⟨(0 : Int32), (), rfl, vc, QB_mk (hP.sub [0, 1] rfl) (hD.sub [0, 1] rfl rfl) ht⟩, hS.F ht⟩) hS.2.2 dX3_numberAt_74

theorem mwX4_add_1 : Cond.fieldLink RX4 9 "HassockSee$Sights" "count" "I" ∈ wsX4_add := List.mem_of_getElem? (i := 1) rfl
theorem mwX4_add_2 : Cond.fieldLink RX4 15 "HassockSee$Sights" "sundays" "[I" ∈ wsX4_add := List.mem_of_getElem? (i := 2) rfl
theorem mwX4_add_3 : Cond.fieldLink RX4 19 "HassockSee$Sights" "felt" "[I" ∈ wsX4_add := List.mem_of_getElem? (i := 3) rfl
theorem mcX4_add_X4 : ∀ w ∈ u_ws RX4 TX4 3, w ∈ wsX4_add := fun _ h => (List.mem_cons_of_mem _ (List.mem_append_right _ h))
def KX4_add (l : Launch) (D : va_G) (cI cZ : ClassId) (P : Int32 → Int32 → Int32 → (Nat → Int32) → (Nat → Int32) → Prop) (Q : Int32 → Int32 → Int32 → (Nat → Int32) → (Nat → Int32) → Int32 → Int32 → (Nat → Int32) → (Nat → Int32) → Prop) : Prop := ∀ (sz : Nat) (h_this h_this_sundays h_this_felt : Nat) (p0 : Int32) (p1 : Int32) (v_count : Int32) (v_felt : (Nat → Int32)) (v_sundays : (Nat → Int32)), P p0 p1 v_count v_felt v_sundays → MI l yX4_add wsX4_add ({ frames := 0, cells := 0, slots := 0, locals := 0 }) [.ref h_this, .int p0, .int p1] D cI cZ sz [(h_this, .inr (4, [.int v_count, .ref h_this_sundays, .ref h_this_felt])), (h_this_felt, .inl (cI, 8, .inl v_felt)), (h_this_sundays, .inl (cI, 8, .inl v_sundays))] (fun r (u : Int32 × (Nat → Int32) × (Nat → Int32)) => Q p0 p1 v_count v_felt v_sundays r (u.1) (u.2.1) (u.2.2)) (fun u => [(h_this, .inr (4, [.int (u.1), .ref h_this_sundays, .ref h_this_felt])), (h_this_felt, .inl (cI, 8, .inl (u.2.1))), (h_this_sundays, .inl (cI, 8, .inl (u.2.2)))]) 0 0
set_option maxHeartbeats 4000000 in
set_option maxRecDepth 100000 in
theorem walkX4_add {l : Launch} {D : va_G} {cI cZ : ClassId} {PX4_add : Int32 → Int32 → Int32 → (Nat → Int32) → (Nat → Int32) → Prop} {QX4_add : Int32 → Int32 → Int32 → (Nat → Int32) → (Nat → Int32) → Int32 → Int32 → (Nat → Int32) → (Nat → Int32) → Prop}  (hvc : ∀ (p0 : Int32) (p1 : Int32) (v_count : Int32) (v_felt : (Nat → Int32)) (v_sundays : (Nat → Int32)), PX4_add p0 p1 v_count v_felt v_sundays → ((v_count < (8 : Int32) → (vp_in v_count 8 ∧ (vp_in v_count 8 ∧ (∀ x_3 : Int32, x_3 = (v_count + (1 : Int32)) → (QX4_add p0 p1 v_count v_felt v_sundays (1 : Int32) x_3 (upd v_felt (v_count).toNatClampNeg p1) (upd v_sundays (v_count).toNatClampNeg p0)))))) ∧ (¬ v_count < (8 : Int32) → (QX4_add p0 p1 v_count v_felt v_sundays (0 : Int32) v_count v_felt v_sundays)))) : KX4_add l D cI cZ PX4_add QX4_add := by
  intro sz h_this h_this_sundays h_this_felt p0 p1 v_count v_felt v_sundays hpre
  have vc := hvc p0 p1 v_count v_felt v_sundays hpre
  clear hvc
  refine Met.ofW (cc := cX4_add) (maxL := 3) (ret := (some .boolean)) (by decide) rfl ?_
  intro p e s m args below meth c s₁ B hml hv
  obtain ⟨rfl, hsz, hP, hK, hD0⟩ := hv
  have hx := B.exec
  have hb := B.bytes
  have hr := B.returns
  have hts := atoms_spec (ws := wsX4_add) B.pre
  have hown : s.vm.findClass RX4 = some m.cls := findClass_of_methodNamed B.named
  have hlocks := B.notSynchronized
  subst hsz
  have hD := hD0.self (sz := s.heap.size)
  generalize hAe : va_A [(h_this, .inr (4, [.int v_count, .ref h_this_sundays, .ref h_this_felt])), (h_this_felt, .inl (cI, 8, .inl v_felt)), (h_this_sundays, .inl (cI, 8, .inl v_sundays))] s.heap.size = A at hD ⊢
  have hA : ∀ q : Nat, s.heap.size ≤ q → A q := fun q h => by rw [← hAe]; exact Or.inr h
  have hS : va_S A s.heap s.heap [] := va_S.rf
  have hP : va_P D vwCl [(h_this, .inr (4, [.int v_count, .ref h_this_sundays, .ref h_this_felt])), (h_this_felt, .inl (cI, 8, .inl v_felt)), (h_this_sundays, .inl (cI, 8, .inl v_sundays))] s.heap := hP
  have hl := lv_entry ([.ref h_this, .int p0, .int p1]) (n := 3) (Nat.le_of_ble_eq_true rfl)
  rw [lg_entry_eq]
  generalize (lg_sl ([.ref h_this, .int p0, .int p1]) ++ List.replicate (3 - (lg_sl ([.ref h_this, .int p0, .int p1])).length) Slot.unset).toArray = ls at hl ⊢
  have hl : lv_has ls 3 [(0, .ref h_this), (1, .int p0), (2, .int p1)] := hl
  refine lv_aload_n hx hb dX4_add_0 rfl (lv_at hl 0 rfl) ?_
  refine va_get (D := D) (ci := 4) (v := .int v_count) (C := RX4) (T := TX4) (N := 3) hx hb hts mcX4_add_X4 hown hK.1 hP 0 rfl rfl 0 (by decide) (hts _ mwX4_add_1) (fun _ h9 => h9) rfl dX4_add_1 ?_
  refine lv_bipush (v := (8 : Int32)) hx hb dX4_add_4 (by decide) ?_
  refine lv_icmp_lt (tgt := 11) hx hb dX4_add_6 (by decide) (fun c_ => ?_) (fun c_ => ?_)
  · replace vc := vc.1 c_
    refine lv_aload_n hx hb dX4_add_11 rfl (lv_at hl 0 rfl) ?_
    refine va_get (D := D) (ci := 4) (v := .ref h_this_sundays) (C := RX4) (T := TX4) (N := 3) hx hb hts mcX4_add_X4 hown hK.1 hP 0 rfl rfl 1 (by decide) (hts _ mwX4_add_2) (fun _ h9 => h9) rfl dX4_add_12 ?_
    refine lv_aload_n hx hb dX4_add_15 rfl (lv_at hl 0 rfl) ?_
    refine va_get (D := D) (ci := 4) (v := .int v_count) (C := RX4) (T := TX4) (N := 3) hx hb hts mcX4_add_X4 hown hK.1 hP 0 rfl rfl 0 (by decide) (hts _ mwX4_add_1) (fun _ h9 => h9) rfl dX4_add_16 ?_
    refine lv_iload_n hx hb dX4_add_19 rfl (lv_at hl 1 rfl) ?_
    have hi_1 := vc.1
    replace vc := vc.2
    refine va_iast hx hb hK.1 hP hD hS 2 0 rfl rfl hi_1 dX4_add_20 (fun H locs hP hD hS => ?_)
    have hP : va_P D vwCl [(h_this, .inr (4, [.int v_count, .ref h_this_sundays, .ref h_this_felt])), (h_this_felt, .inl (cI, 8, .inl v_felt)), (h_this_sundays, .inl (cI, 8, .inl (upd v_sundays (v_count).toNatClampNeg p0)))] H := hP
    have hD : va_D A [(h_this, .inr (4, [.int v_count, .ref h_this_sundays, .ref h_this_felt])), (h_this_felt, .inl (cI, 8, .inl v_felt)), (h_this_sundays, .inl (cI, 8, .inl (upd v_sundays (v_count).toNatClampNeg p0)))] := hD
    refine lv_aload_n hx hb dX4_add_21 rfl (lv_at hl 0 rfl) ?_
    refine va_get (D := D) (ci := 4) (v := .ref h_this_felt) (C := RX4) (T := TX4) (N := 3) hx hb hts mcX4_add_X4 hown hK.1 hP 0 rfl rfl 2 (by decide) (hts _ mwX4_add_3) (fun _ h9 => h9) rfl dX4_add_22 ?_
    refine lv_aload_n hx hb dX4_add_25 rfl (lv_at hl 0 rfl) ?_
    refine va_get (D := D) (ci := 4) (v := .int v_count) (C := RX4) (T := TX4) (N := 3) hx hb hts mcX4_add_X4 hown hK.1 hP 0 rfl rfl 0 (by decide) (hts _ mwX4_add_1) (fun _ h9 => h9) rfl dX4_add_26 ?_
    refine lv_iload_n hx hb dX4_add_29 rfl (lv_at hl 2 rfl) ?_
    have hi_2 := vc.1
    replace vc := vc.2
    refine va_iast hx hb hK.1 hP hD hS 1 0 rfl rfl hi_2 dX4_add_30 (fun H locs hP hD hS => ?_)
    have hP : va_P D vwCl [(h_this, .inr (4, [.int v_count, .ref h_this_sundays, .ref h_this_felt])), (h_this_felt, .inl (cI, 8, .inl (upd v_felt (v_count).toNatClampNeg p1))), (h_this_sundays, .inl (cI, 8, .inl (upd v_sundays (v_count).toNatClampNeg p0)))] H := hP
    have hD : va_D A [(h_this, .inr (4, [.int v_count, .ref h_this_sundays, .ref h_this_felt])), (h_this_felt, .inl (cI, 8, .inl (upd v_felt (v_count).toNatClampNeg p1))), (h_this_sundays, .inl (cI, 8, .inl (upd v_sundays (v_count).toNatClampNeg p0)))] := hD
    refine lv_aload_n hx hb dX4_add_31 rfl (lv_at hl 0 rfl) ?_
    refine lv_dup hx hb dX4_add_32 rfl ?_
    refine va_get (D := D) (ci := 4) (v := .int v_count) (C := RX4) (T := TX4) (N := 3) hx hb hts mcX4_add_X4 hown hK.1 hP 0 rfl rfl 0 (by decide) (hts _ mwX4_add_1) (fun _ h9 => h9) rfl dX4_add_33 ?_
    refine lv_iconst (v := (1 : Int32)) hx hb dX4_add_36 (by decide) ?_
    refine lv_iadd hx hb dX4_add_37 ?_
    refine lv_topi (fun x_3 ex_3 => ?_)
    replace vc := vc x_3 ex_3
    refine va_put (D := D) (ci := 4) (v := .int x_3) (ty := .int) (C := RX4) (T := TX4) (N := 3) hx hb hts mcX4_add_X4 tyX4 tyX4_ok nmX4 hown hK.1 hP hD hS 0 rfl rfl 0 (by decide) (hts _ mwX4_add_1) (fun _ h9 => h9) rfl (by decide +kernel) rfl rfl (Nat.le_of_ble_eq_true rfl) dX4_add_38 (fun H locs hP hD hS => ?_)
    have hP : va_P D vwCl [(h_this, .inr (4, [.int x_3, .ref h_this_sundays, .ref h_this_felt])), (h_this_felt, .inl (cI, 8, .inl (upd v_felt (v_count).toNatClampNeg p1))), (h_this_sundays, .inl (cI, 8, .inl (upd v_sundays (v_count).toNatClampNeg p0)))] H := hP
    have hD : va_D A [(h_this, .inr (4, [.int x_3, .ref h_this_sundays, .ref h_this_felt])), (h_this_felt, .inl (cI, 8, .inl (upd v_felt (v_count).toNatClampNeg p1))), (h_this_sundays, .inl (cI, 8, .inl (upd v_sundays (v_count).toNatClampNeg p0)))] := hD
    refine lv_iconst (v := (1 : Int32)) hx hb dX4_add_41 (by decide) ?_
    exact W.zret (v := (1 : Int32)) hx hb hr rfl (fun t ht hW => ⟨⟨(1 : Int32), (x_3, (upd v_felt (v_count).toNatClampNeg p1), (upd v_sundays (v_count).toNatClampNeg p0)), rfl, vc, QB_mk (hP.sub [0, 1, 2] rfl) (hD.sub [0, 1, 2] rfl rfl) ht⟩, hS.F ht⟩) hS.2.2 dX4_add_42
  · replace vc := vc.2 c_
    refine lv_iconst (v := (0 : Int32)) hx hb dX4_add_9 (by decide) ?_
    exact W.zret (v := (0 : Int32)) hx hb hr rfl (fun t ht hW => ⟨⟨(0 : Int32), (v_count, v_felt, v_sundays), rfl, vc, QB_mk (hP.sub [0, 1, 2] rfl) (hD.sub [0, 1, 2] rfl rfl) ht⟩, hS.F ht⟩) hS.2.2 dX4_add_10

theorem mwX6_woolBehind_1 : Cond.methodLink RX6 18 Lib.Math.max.name ∈ wsX6_woolBehind := List.mem_of_getElem? (i := 1) rfl
theorem mwX6_woolBehind_2 : Cond.static Lib.Math.max.name ∈ wsX6_woolBehind := List.mem_of_getElem? (i := 2) rfl
theorem mwX6_woolBehind_3 : Cond.initialized "java/lang/Math" ∈ wsX6_woolBehind := List.mem_of_getElem? (i := 3) rfl
theorem mwX6_woolBehind_4 : Cond.code Lib.Math.max.name Lib.Math.max.code 2 (some .int) ∈ wsX6_woolBehind := List.mem_of_getElem? (i := 4) rfl
def KX6_woolBehind (l : Launch) (D : va_G) (cI cZ : ClassId) (P : Int32 → Int32 → Int32 → Prop) (Q : Int32 → Int32 → Int32 → Int32 → Prop) : Prop := ∀ (sz : Nat) (p0 : Int32) (p1 : Int32) (p2 : Int32), P p0 p1 p2 → MI l yX6_woolBehind wsX6_woolBehind ({ frames := 1, cells := 0, slots := 0, locals := 40 }) [.int p0, .int p1, .int p2] D cI cZ sz [] (fun r (u : Unit) => Q p0 p1 p2 r ) (fun u => []) 0 0
set_option maxHeartbeats 4000000 in
set_option maxRecDepth 100000 in
theorem walkX6_woolBehind {l : Launch} {D : va_G} {cI cZ : ClassId} {PX6_woolBehind : Int32 → Int32 → Int32 → Prop} {QX6_woolBehind : Int32 → Int32 → Int32 → Int32 → Prop}  (hvc : ∀ (p0 : Int32) (p1 : Int32) (p2 : Int32), PX6_woolBehind p0 p1 p2 → (∀ x_1 : Int32, x_1 = (if (0 : Int32) < (((99 : Int32) - (p0 * p1)) - (p2 * (p0 / (4 : Int32)))) then (((99 : Int32) - (p0 * p1)) - (p2 * (p0 / (4 : Int32)))) else (0 : Int32)) → (QX6_woolBehind p0 p1 p2 x_1 ))) : KX6_woolBehind l D cI cZ PX6_woolBehind QX6_woolBehind := by
  intro sz  p0 p1 p2 hpre
  have vc := hvc p0 p1 p2 hpre
  clear hvc
  refine Met.ofW (cc := cX6_woolBehind) (maxL := 3) (ret := (some .int)) (by decide) rfl ?_
  intro p e s m args below meth c s₁ B hml hv
  obtain ⟨rfl, hsz, hP, hK, hD0⟩ := hv
  have hx := B.exec
  have hb := B.bytes
  have hr := B.returns
  have hts := atoms_spec (ws := wsX6_woolBehind) B.pre
  have hown : s.vm.findClass RX6 = some m.cls := findClass_of_methodNamed B.named
  have hlocks := B.notSynchronized
  subst hsz
  have hD := hD0.self (sz := s.heap.size)
  generalize hAe : va_A [] s.heap.size = A at hD ⊢
  have hA : ∀ q : Nat, s.heap.size ≤ q → A q := fun q h => by rw [← hAe]; exact Or.inr h
  have hS : va_S A s.heap s.heap [] := va_S.rf
  have hP : va_P D vwCl [] s.heap := hP
  have hl := lv_entry ([.int p0, .int p1, .int p2]) (n := 3) (Nat.le_of_ble_eq_true rfl)
  rw [lg_entry_eq]
  generalize (lg_sl ([.int p0, .int p1, .int p2]) ++ List.replicate (3 - (lg_sl ([.int p0, .int p1, .int p2])).length) Slot.unset).toArray = ls at hl ⊢
  have hl : lv_has ls 3 [(0, .int p0), (1, .int p1), (2, .int p2)] := hl
  refine lv_iconst (v := (0 : Int32)) hx hb dX6_woolBehind_0 (by decide) ?_
  refine lv_bipush (v := (99 : Int32)) hx hb dX6_woolBehind_1 (by decide) ?_
  refine lv_iload_n hx hb dX6_woolBehind_3 rfl (lv_at hl 0 rfl) ?_
  refine lv_iload_n hx hb dX6_woolBehind_4 rfl (lv_at hl 1 rfl) ?_
  refine lv_imul hx hb dX6_woolBehind_5 ?_
  refine lv_isub hx hb dX6_woolBehind_6 ?_
  refine lv_iload_n hx hb dX6_woolBehind_7 rfl (lv_at hl 2 rfl) ?_
  refine lv_iload_n hx hb dX6_woolBehind_8 rfl (lv_at hl 0 rfl) ?_
  refine lv_iconst (v := (4 : Int32)) hx hb dX6_woolBehind_9 (by decide) ?_
  refine lv_idiv hx hb dX6_woolBehind_10 (by decide) ?_
  refine lv_imul hx hb dX6_woolBehind_11 ?_
  refine lv_isub hx hb dX6_woolBehind_12 ?_
  refine va_mmax hx hb (by rw [hml]; exact hl.1.symm) hown (hts _ mwX6_woolBehind_1) (hts _ mwX6_woolBehind_2) (hts _ mwX6_woolBehind_3) (hts _ mwX6_woolBehind_4) (Nat.le_of_ble_eq_true rfl) (Nat.le_of_ble_eq_true rfl) (Nat.le_of_ble_eq_true rfl) (Nat.le_of_ble_eq_true rfl) dX6_woolBehind_13 ?_
  refine lv_topi (fun x_1 ex_1 => ?_)
  replace vc := vc x_1 ex_1
  exact W.iret (v := x_1) hx hb hr (fun t ht hW => ⟨⟨x_1, (), rfl, vc, QB_mk (hP.sub [] rfl) (hD.sub [] rfl rfl) ht⟩, hS.F ht⟩) hS.2.2 dX6_woolBehind_16

theorem mwX4_allAreSo_1 : Cond.fieldLink RX4 9 "HassockSee$Sights" "count" "I" ∈ wsX4_allAreSo := List.mem_of_getElem? (i := 1) rfl
theorem mwX4_allAreSo_2 : Cond.fieldLink RX4 15 "HassockSee$Sights" "sundays" "[I" ∈ wsX4_allAreSo := List.mem_of_getElem? (i := 2) rfl
theorem mwX4_allAreSo_3 : Cond.fieldLink RX4 19 "HassockSee$Sights" "felt" "[I" ∈ wsX4_allAreSo := List.mem_of_getElem? (i := 3) rfl
theorem mcX4_allAreSo_X4 : ∀ w ∈ u_ws RX4 TX4 3, w ∈ wsX4_allAreSo := fun _ h => (List.mem_cons_of_mem _ (List.mem_append_right _ h))
def KX4_allAreSo (l : Launch) (D : va_G) (cI cZ : ClassId) (P : Int32 → Int32 → Int32 → (Nat → Int32) → (Nat → Int32) → Prop) (Q : Int32 → Int32 → Int32 → (Nat → Int32) → (Nat → Int32) → Int32 → Prop) : Prop := ∀ (sz : Nat) (h_this h_this_sundays h_this_felt : Nat) (p0 : Int32) (p1 : Int32) (v_count : Int32) (v_felt : (Nat → Int32)) (v_sundays : (Nat → Int32)), P p0 p1 v_count v_felt v_sundays → MI l yX4_allAreSo wsX4_allAreSo ({ frames := 2, cells := 0, slots := 0, locals := 62 }) [.ref h_this, .int p0, .int p1] D cI cZ sz [(h_this, .inr (4, [.int v_count, .ref h_this_sundays, .ref h_this_felt])), (h_this_felt, .inl (cI, 8, .inl v_felt)), (h_this_sundays, .inl (cI, 8, .inl v_sundays))] (fun r (u : Unit) => Q p0 p1 v_count v_felt v_sundays r ) (fun u => [(h_this, .inr (4, [.int v_count, .ref h_this_sundays, .ref h_this_felt])), (h_this_felt, .inl (cI, 8, .inl v_felt)), (h_this_sundays, .inl (cI, 8, .inl v_sundays))]) 0 0
set_option maxHeartbeats 4000000 in
set_option maxRecDepth 100000 in
theorem walkX4_allAreSo {l : Launch} {D : va_G} {cI cZ : ClassId} {PX4_allAreSo : Int32 → Int32 → Int32 → (Nat → Int32) → (Nat → Int32) → Prop} {QX4_allAreSo : Int32 → Int32 → Int32 → (Nat → Int32) → (Nat → Int32) → Int32 → Prop} {PX6_woolBehind : Int32 → Int32 → Int32 → Prop} {QX6_woolBehind : Int32 → Int32 → Int32 → Int32 → Prop} (kX6_woolBehind : KX6_woolBehind l D cI cZ PX6_woolBehind QX6_woolBehind) (IX4_allAreSo_2 : Int32 → Int32 → Int32 → (Nat → Int32) → (Nat → Int32) → Nat → Int32 → Int32 → Int32 → Prop) (hvc : ∀ (p0 : Int32) (p1 : Int32) (v_count : Int32) (v_felt : (Nat → Int32)) (v_sundays : (Nat → Int32)), PX4_allAreSo p0 p1 v_count v_felt v_sundays → ((∃ n0 : Nat, IX4_allAreSo_2 p0 p1 v_count v_felt v_sundays n0 p0 p1 (0 : Int32)) ∧ (∀ (n_1 : Nat) (i_2 : Int32), (IX4_allAreSo_2 p0 p1 v_count v_felt v_sundays n_1 p0 p1 i_2 → ((v_count ≤ i_2 → (QX4_allAreSo p0 p1 v_count v_felt v_sundays (1 : Int32) )) ∧ (¬ v_count ≤ i_2 → (((8 : Int32) ≤ i_2 → (QX4_allAreSo p0 p1 v_count v_felt v_sundays (1 : Int32) )) ∧ (¬ (8 : Int32) ≤ i_2 → (vp_in i_2 8 ∧ (PX6_woolBehind (v_sundays (i_2).toNatClampNeg) p0 p1 ∧ (∀ r_4 : Int32, QX6_woolBehind (v_sundays (i_2).toNatClampNeg) p0 p1 r_4 → (vp_in i_2 8 ∧ ((r_4 = (v_felt (i_2).toNatClampNeg) → (∀ x_6 : Int32, x_6 = (i_2 + (1 : Int32)) → (∃ n1 : Nat, n1 < n_1 ∧ IX4_allAreSo_2 p0 p1 v_count v_felt v_sundays n1 p0 p1 x_6))) ∧ (¬ r_4 = (v_felt (i_2).toNatClampNeg) → (QX4_allAreSo p0 p1 v_count v_felt v_sundays (0 : Int32) ))))))))))))))) : KX4_allAreSo l D cI cZ PX4_allAreSo QX4_allAreSo := by
  intro sz h_this h_this_sundays h_this_felt p0 p1 v_count v_felt v_sundays hpre
  have vc := hvc p0 p1 v_count v_felt v_sundays hpre
  clear hvc
  refine Met.ofW (cc := cX4_allAreSo) (maxL := 4) (ret := (some .boolean)) (by decide) rfl ?_
  intro p e s m args below meth c s₁ B hml hv
  obtain ⟨rfl, hsz, hP, hK, hD0⟩ := hv
  have hx := B.exec
  have hb := B.bytes
  have hr := B.returns
  have hts := atoms_spec (ws := wsX4_allAreSo) B.pre
  have hown : s.vm.findClass RX4 = some m.cls := findClass_of_methodNamed B.named
  have hlocks := B.notSynchronized
  subst hsz
  have hD := hD0.self (sz := s.heap.size)
  generalize hAe : va_A [(h_this, .inr (4, [.int v_count, .ref h_this_sundays, .ref h_this_felt])), (h_this_felt, .inl (cI, 8, .inl v_felt)), (h_this_sundays, .inl (cI, 8, .inl v_sundays))] s.heap.size = A at hD ⊢
  have hA : ∀ q : Nat, s.heap.size ≤ q → A q := fun q h => by rw [← hAe]; exact Or.inr h
  have hS : va_S A s.heap s.heap [] := va_S.rf
  have hP : va_P D vwCl [(h_this, .inr (4, [.int v_count, .ref h_this_sundays, .ref h_this_felt])), (h_this_felt, .inl (cI, 8, .inl v_felt)), (h_this_sundays, .inl (cI, 8, .inl v_sundays))] s.heap := hP
  have hl := lv_entry ([.ref h_this, .int p0, .int p1]) (n := 4) (Nat.le_of_ble_eq_true rfl)
  rw [lg_entry_eq]
  generalize (lg_sl ([.ref h_this, .int p0, .int p1]) ++ List.replicate (4 - (lg_sl ([.ref h_this, .int p0, .int p1])).length) Slot.unset).toArray = ls at hl ⊢
  have hl : lv_has ls 4 [(0, .ref h_this), (1, .int p0), (2, .int p1)] := hl
  refine lv_iconst (v := (0 : Int32)) hx hb dX4_allAreSo_0 (by decide) ?_
  refine lv_istore_n (lv' := [(3, .int (0 : Int32)), (0, .ref h_this), (1, .int p0), (2, .int p1)]) hx hb dX4_allAreSo_1 rfl hl (by decide) rfl (fun ls hl => ?_)
  obtain ⟨⟨n0_1, hi0_1⟩, vc⟩ := vc
  refine kloop (V := Int32) (I := fun n v => IX4_allAreSo_2 p0 p1 v_count v_felt v_sundays n p0 p1 (v)) (wv := fun v => [(h_this, .inr (4, [.int v_count, .ref h_this_sundays, .ref h_this_felt])), (h_this_felt, .inl (cI, 8, .inl v_felt)), (h_this_sundays, .inl (cI, 8, .inl v_sundays))]) (lv := fun v => [(0, .ref h_this), (1, .int p0), (2, .int p1), (3, .int (v))]) n0_1 ((0 : Int32)) hi0_1 hP hD hS (lv_sub hl [1, 2, 3, 0] rfl) ?_
  intro n_1 v_1 hi_1 ih_1 H locs hP hD hS ls hl
  obtain ⟨i_2, rfl⟩ : ∃ z, z = v_1 := ⟨_, rfl⟩
  replace vc := vc n_1 i_2 hi_1
  have hP : va_P D vwCl [(h_this, .inr (4, [.int v_count, .ref h_this_sundays, .ref h_this_felt])), (h_this_felt, .inl (cI, 8, .inl v_felt)), (h_this_sundays, .inl (cI, 8, .inl v_sundays))] H := hP
  have hD : va_D A [(h_this, .inr (4, [.int v_count, .ref h_this_sundays, .ref h_this_felt])), (h_this_felt, .inl (cI, 8, .inl v_felt)), (h_this_sundays, .inl (cI, 8, .inl v_sundays))] := hD
  have hl : lv_has ls 4 [(0, .ref h_this), (1, .int p0), (2, .int p1), (3, .int i_2)] := hl
  refine lv_iload_n hx hb dX4_allAreSo_2 rfl (lv_at hl 3 rfl) ?_
  refine lv_aload_n hx hb dX4_allAreSo_3 rfl (lv_at hl 0 rfl) ?_
  refine va_get (D := D) (ci := 4) (v := .int v_count) (C := RX4) (T := TX4) (N := 3) hx hb hts mcX4_allAreSo_X4 hown hK.1 hP 0 rfl rfl 0 (by decide) (hts _ mwX4_allAreSo_1) (fun _ h9 => h9) rfl dX4_allAreSo_4 ?_
  refine lv_icmp_ge (tgt := 44) hx hb dX4_allAreSo_7 (by decide) (fun c_ => ?_) (fun c_ => ?_)
  · replace vc := vc.1 c_
    refine lv_iconst (v := (1 : Int32)) hx hb dX4_allAreSo_44 (by decide) ?_
    exact W.zret (v := (1 : Int32)) hx hb hr rfl (fun t ht hW => ⟨⟨(1 : Int32), (), rfl, vc, QB_mk (hP.sub [0, 1, 2] rfl) (hD.sub [0, 1, 2] rfl rfl) ht⟩, hS.F ht⟩) hS.2.2 dX4_allAreSo_45
  · replace vc := vc.2 c_
    refine lv_iload_n hx hb dX4_allAreSo_10 rfl (lv_at hl 3 rfl) ?_
    refine lv_bipush (v := (8 : Int32)) hx hb dX4_allAreSo_11 (by decide) ?_
    refine lv_icmp_ge (tgt := 44) hx hb dX4_allAreSo_13 (by decide) (fun c_ => ?_) (fun c_ => ?_)
    · replace vc := vc.1 c_
      refine lv_iconst (v := (1 : Int32)) hx hb dX4_allAreSo_44 (by decide) ?_
      exact W.zret (v := (1 : Int32)) hx hb hr rfl (fun t ht hW => ⟨⟨(1 : Int32), (), rfl, vc, QB_mk (hP.sub [0, 1, 2] rfl) (hD.sub [0, 1, 2] rfl rfl) ht⟩, hS.F ht⟩) hS.2.2 dX4_allAreSo_45
    · replace vc := vc.2 c_
      refine lv_aload_n hx hb dX4_allAreSo_16 rfl (lv_at hl 0 rfl) ?_
      refine va_get (D := D) (ci := 4) (v := .ref h_this_sundays) (C := RX4) (T := TX4) (N := 3) hx hb hts mcX4_allAreSo_X4 hown hK.1 hP 0 rfl rfl 1 (by decide) (hts _ mwX4_allAreSo_2) (fun _ h9 => h9) rfl dX4_allAreSo_17 ?_
      refine lv_iload_n hx hb dX4_allAreSo_20 rfl (lv_at hl 3 rfl) ?_
      have hi_3 := vc.1
      replace vc := vc.2
      refine va_iald hx hb hK.1 hP 2 0 rfl rfl hi_3 dX4_allAreSo_21 ?_
      refine lv_iload_n hx hb dX4_allAreSo_22 rfl (lv_at hl 1 rfl) ?_
      refine lv_iload_n hx hb dX4_allAreSo_23 rfl (lv_at hl 2 rfl) ?_
      refine kj0_i (rest := []) (kS ⟨hx, hb, hml, hown, hts⟩ (kX6_woolBehind _ (v_sundays (i_2).toNatClampNeg) p0 p1 vc.1) (va_cwS 3 hts gX4_allAreSo_X6_woolBehind rfl rfl rfl (by decide +kernel) ⟨(Nat.le_of_ble_eq_true rfl), (Nat.le_of_ble_eq_true rfl)⟩) hK rfl rfl hl.1 (Nat.le_of_ble_eq_true rfl) dX4_allAreSo_24 ⟨(Nat.le_of_ble_eq_true rfl), (Nat.le_of_ble_eq_true rfl)⟩) hP hS hA (fun r_4 H locs hq_ hP hS => ?_)
      replace vc := vc.2 r_4 hq_
      have hP : va_P D vwCl [(h_this, .inr (4, [.int v_count, .ref h_this_sundays, .ref h_this_felt])), (h_this_felt, .inl (cI, 8, .inl v_felt)), (h_this_sundays, .inl (cI, 8, .inl v_sundays))] H := hP
      refine lv_aload_n hx hb dX4_allAreSo_27 rfl (lv_at hl 0 rfl) ?_
      refine va_get (D := D) (ci := 4) (v := .ref h_this_felt) (C := RX4) (T := TX4) (N := 3) hx hb hts mcX4_allAreSo_X4 hown hK.1 hP 0 rfl rfl 2 (by decide) (hts _ mwX4_allAreSo_3) (fun _ h9 => h9) rfl dX4_allAreSo_28 ?_
      refine lv_iload_n hx hb dX4_allAreSo_31 rfl (lv_at hl 3 rfl) ?_
      have hi_5 := vc.1
      replace vc := vc.2
      refine va_iald hx hb hK.1 hP 1 0 rfl rfl hi_5 dX4_allAreSo_32 ?_
      refine lv_icmp_eq (tgt := 38) hx hb dX4_allAreSo_33 (by decide) (fun c_ => ?_) (fun c_ => ?_)
      · replace vc := vc.1 c_
        obtain ⟨x_6, ex_6⟩ : ∃ y_ : Int32, y_ = (i_2 + (1 : Int32)) := ⟨_, rfl⟩
        replace vc := vc x_6 ex_6
        refine lv_iinc (v := x_6) (lv' := [(3, .int x_6), (0, .ref h_this), (1, .int p0), (2, .int p1)]) hx hb dX4_allAreSo_38 hl (k := 3) rfl (by rw [ex_6]; rfl) (by decide) rfl (fun ls hl => ?_)
        refine lv_goto (tgt := 2) hx hb dX4_allAreSo_41 (by decide) ?_
        obtain ⟨n1_, hlt_, hi_⟩ := vc
        exact ih_1 n1_ (x_6) hlt_ hi_ _ _ hP hD hS ls (lv_sub hl [1, 2, 3, 0] rfl)
      · replace vc := vc.2 c_
        refine lv_iconst (v := (0 : Int32)) hx hb dX4_allAreSo_36 (by decide) ?_
        exact W.zret (v := (0 : Int32)) hx hb hr rfl (fun t ht hW => ⟨⟨(0 : Int32), (), rfl, vc, QB_mk (hP.sub [0, 1, 2] rfl) (hD.sub [0, 1, 2] rfl rfl) ht⟩, hS.F ht⟩) hS.2.2 dX4_allAreSo_37

theorem mwX5_findMove_1 : Cond.fieldLink RX5 9 "HassockSee$Unpicking" "moveOf" "[I" ∈ wsX5_findMove := List.mem_of_getElem? (i := 1) rfl
theorem mcX5_findMove_X5 : ∀ w ∈ u_ws RX5 TX5 1, w ∈ wsX5_findMove := fun _ h => (List.mem_cons_of_mem _ (List.mem_append_right _ h))
def KX5_findMove (l : Launch) (D : va_G) (cI cZ : ClassId) (P : Int32 → (Nat → Int32) → Prop) (Q : Int32 → (Nat → Int32) → Int32 → Prop) : Prop := ∀ (sz : Nat) (h_this h_this_moveOf : Nat) (p0 : Int32) (v_moveOf : (Nat → Int32)), P p0 v_moveOf → MI l yX5_findMove wsX5_findMove ({ frames := 0, cells := 0, slots := 0, locals := 0 }) [.ref h_this, .int p0] D cI cZ sz [(h_this, .inr (5, [.ref h_this_moveOf])), (h_this_moveOf, .inl (cI, 256, .inl v_moveOf))] (fun r (u : Unit) => Q p0 v_moveOf r ) (fun u => [(h_this, .inr (5, [.ref h_this_moveOf])), (h_this_moveOf, .inl (cI, 256, .inl v_moveOf))]) 0 0
set_option maxHeartbeats 4000000 in
set_option maxRecDepth 100000 in
theorem walkX5_findMove {l : Launch} {D : va_G} {cI cZ : ClassId} {PX5_findMove : Int32 → (Nat → Int32) → Prop} {QX5_findMove : Int32 → (Nat → Int32) → Int32 → Prop} (IX5_findMove_2 : Int32 → (Nat → Int32) → Nat → Int32 → Int32 → Prop) (hvc : ∀ (p0 : Int32) (v_moveOf : (Nat → Int32)), PX5_findMove p0 v_moveOf → ((∃ n0 : Nat, IX5_findMove_2 p0 v_moveOf n0 p0 (0 : Int32)) ∧ (∀ (n_1 : Nat) (i_2 : Int32), (IX5_findMove_2 p0 v_moveOf n_1 p0 i_2 → (((8 : Int32) ≤ i_2 → (QX5_findMove p0 v_moveOf (-6 : Int32) )) ∧ (¬ (8 : Int32) ≤ i_2 → (∀ x_3 : Int32, x_3 = ((1 : Int32) <<< (i_2 &&& 31)) → (∀ x_4 : Int32, x_4 = ((3 : Int32) <<< (i_2 &&& 31)) → ((¬ (p0 &&& x_3) = x_3 → ((¬ (p0 &&& x_4) = x_4 → (∀ x_5 : Int32, x_5 = (i_2 + (1 : Int32)) → (∃ n1 : Nat, n1 < n_1 ∧ IX5_findMove_2 p0 v_moveOf n1 p0 x_5))) ∧ ((p0 &&& x_4) = x_4 → (vp_in (p0 ^^^ x_4) 256 ∧ ((¬ (v_moveOf ((p0 ^^^ x_4)).toNatClampNeg) = (-6 : Int32) → (∀ x_7 : Int32, x_7 = (i_2 + (1 : Int32)) → (∃ n1 : Nat, n1 < n_1 ∧ IX5_findMove_2 p0 v_moveOf n1 p0 x_7))) ∧ ((v_moveOf ((p0 ^^^ x_4)).toNatClampNeg) = (-6 : Int32) → (QX5_findMove p0 v_moveOf (((10 : Int32) * i_2) + (2 : Int32)) ))))))) ∧ ((p0 &&& x_3) = x_3 → (vp_in (p0 ^^^ x_3) 256 ∧ ((¬ (v_moveOf ((p0 ^^^ x_3)).toNatClampNeg) = (-6 : Int32) → ((¬ (p0 &&& x_4) = x_4 → (∀ x_9 : Int32, x_9 = (i_2 + (1 : Int32)) → (∃ n1 : Nat, n1 < n_1 ∧ IX5_findMove_2 p0 v_moveOf n1 p0 x_9))) ∧ ((p0 &&& x_4) = x_4 → (vp_in (p0 ^^^ x_4) 256 ∧ ((¬ (v_moveOf ((p0 ^^^ x_4)).toNatClampNeg) = (-6 : Int32) → (∀ x_11 : Int32, x_11 = (i_2 + (1 : Int32)) → (∃ n1 : Nat, n1 < n_1 ∧ IX5_findMove_2 p0 v_moveOf n1 p0 x_11))) ∧ ((v_moveOf ((p0 ^^^ x_4)).toNatClampNeg) = (-6 : Int32) → (QX5_findMove p0 v_moveOf (((10 : Int32) * i_2) + (2 : Int32)) ))))))) ∧ ((v_moveOf ((p0 ^^^ x_3)).toNatClampNeg) = (-6 : Int32) → (QX5_findMove p0 v_moveOf (((10 : Int32) * i_2) + (1 : Int32)) )))))))))))))) : KX5_findMove l D cI cZ PX5_findMove QX5_findMove := by
  intro sz h_this h_this_moveOf p0 v_moveOf hpre
  have vc := hvc p0 v_moveOf hpre
  clear hvc
  refine Met.ofW (cc := cX5_findMove) (maxL := 5) (ret := (some .int)) (by decide) rfl ?_
  intro p e s m args below meth c s₁ B hml hv
  obtain ⟨rfl, hsz, hP, hK, hD0⟩ := hv
  have hx := B.exec
  have hb := B.bytes
  have hr := B.returns
  have hts := atoms_spec (ws := wsX5_findMove) B.pre
  have hown : s.vm.findClass RX5 = some m.cls := findClass_of_methodNamed B.named
  have hlocks := B.notSynchronized
  subst hsz
  have hD := hD0.self (sz := s.heap.size)
  generalize hAe : va_A [(h_this, .inr (5, [.ref h_this_moveOf])), (h_this_moveOf, .inl (cI, 256, .inl v_moveOf))] s.heap.size = A at hD ⊢
  have hA : ∀ q : Nat, s.heap.size ≤ q → A q := fun q h => by rw [← hAe]; exact Or.inr h
  have hS : va_S A s.heap s.heap [] := va_S.rf
  have hP : va_P D vwCl [(h_this, .inr (5, [.ref h_this_moveOf])), (h_this_moveOf, .inl (cI, 256, .inl v_moveOf))] s.heap := hP
  have hl := lv_entry ([.ref h_this, .int p0]) (n := 5) (Nat.le_of_ble_eq_true rfl)
  rw [lg_entry_eq]
  generalize (lg_sl ([.ref h_this, .int p0]) ++ List.replicate (5 - (lg_sl ([.ref h_this, .int p0])).length) Slot.unset).toArray = ls at hl ⊢
  have hl : lv_has ls 5 [(0, .ref h_this), (1, .int p0)] := hl
  refine lv_iconst (v := (0 : Int32)) hx hb dX5_findMove_0 (by decide) ?_
  refine lv_istore_n (lv' := [(2, .int (0 : Int32)), (0, .ref h_this), (1, .int p0)]) hx hb dX5_findMove_1 rfl hl (by decide) rfl (fun ls hl => ?_)
  obtain ⟨⟨n0_1, hi0_1⟩, vc⟩ := vc
  refine kloop (V := Int32) (I := fun n v => IX5_findMove_2 p0 v_moveOf n p0 (v)) (wv := fun v => [(h_this, .inr (5, [.ref h_this_moveOf])), (h_this_moveOf, .inl (cI, 256, .inl v_moveOf))]) (lv := fun v => [(0, .ref h_this), (1, .int p0), (2, .int (v))]) n0_1 ((0 : Int32)) hi0_1 hP hD hS (lv_sub hl [1, 2, 0] rfl) ?_
  intro n_1 v_1 hi_1 ih_1 H locs hP hD hS ls hl
  obtain ⟨i_2, rfl⟩ : ∃ z, z = v_1 := ⟨_, rfl⟩
  replace vc := vc n_1 i_2 hi_1
  have hP : va_P D vwCl [(h_this, .inr (5, [.ref h_this_moveOf])), (h_this_moveOf, .inl (cI, 256, .inl v_moveOf))] H := hP
  have hD : va_D A [(h_this, .inr (5, [.ref h_this_moveOf])), (h_this_moveOf, .inl (cI, 256, .inl v_moveOf))] := hD
  have hl : lv_has ls 5 [(0, .ref h_this), (1, .int p0), (2, .int i_2)] := hl
  refine lv_iload_n hx hb dX5_findMove_2 rfl (lv_at hl 2 rfl) ?_
  refine lv_bipush (v := (8 : Int32)) hx hb dX5_findMove_3 (by decide) ?_
  refine lv_icmp_ge (tgt := 80) hx hb dX5_findMove_5 (by decide) (fun c_ => ?_) (fun c_ => ?_)
  · replace vc := vc.1 c_
    refine lv_bipush (v := (-6 : Int32)) hx hb dX5_findMove_80 (by decide) ?_
    exact W.iret (v := (-6 : Int32)) hx hb hr (fun t ht hW => ⟨⟨(-6 : Int32), (), rfl, vc, QB_mk (hP.sub [0, 1] rfl) (hD.sub [0, 1] rfl rfl) ht⟩, hS.F ht⟩) hS.2.2 dX5_findMove_82
  · replace vc := vc.2 c_
    refine lv_iconst (v := (1 : Int32)) hx hb dX5_findMove_8 (by decide) ?_
    refine lv_iload_n hx hb dX5_findMove_9 rfl (lv_at hl 2 rfl) ?_
    refine lv_ishl hx hb dX5_findMove_10 ?_
    refine lv_topi (fun x_3 ex_3 => ?_)
    replace vc := vc x_3 ex_3
    refine lv_istore_n (lv' := [(3, .int x_3), (0, .ref h_this), (1, .int p0), (2, .int i_2)]) hx hb dX5_findMove_11 rfl hl (by decide) rfl (fun ls hl => ?_)
    refine lv_iconst (v := (3 : Int32)) hx hb dX5_findMove_12 (by decide) ?_
    refine lv_iload_n hx hb dX5_findMove_13 rfl (lv_at hl 3 rfl) ?_
    refine lv_ishl hx hb dX5_findMove_14 ?_
    refine lv_topi (fun x_4 ex_4 => ?_)
    replace vc := vc x_4 ex_4
    refine lv_istore (lv' := [(4, .int x_4), (3, .int x_3), (0, .ref h_this), (1, .int p0), (2, .int i_2)]) hx hb dX5_findMove_15 hl (by decide) rfl (fun ls hl => ?_)
    refine lv_iload_n hx hb dX5_findMove_17 rfl (lv_at hl 3 rfl) ?_
    refine lv_iload_n hx hb dX5_findMove_18 rfl (lv_at hl 1 rfl) ?_
    refine lv_iand hx hb dX5_findMove_19 ?_
    refine lv_iload_n hx hb dX5_findMove_20 rfl (lv_at hl 1 rfl) ?_
    refine lv_icmp_ne (tgt := 44) hx hb dX5_findMove_21 (by decide) (fun c_ => ?_) (fun c_ => ?_)
    · replace vc := vc.1 c_
      refine lv_iload_n hx hb dX5_findMove_44 rfl (lv_at hl 3 rfl) ?_
      refine lv_iload hx hb dX5_findMove_45 (lv_at hl 0 rfl) ?_
      refine lv_iand hx hb dX5_findMove_47 ?_
      refine lv_iload hx hb dX5_findMove_48 (lv_at hl 0 rfl) ?_
      refine lv_icmp_ne (tgt := 74) hx hb dX5_findMove_50 (by decide) (fun c_ => ?_) (fun c_ => ?_)
      · replace vc := vc.1 c_
        obtain ⟨x_5, ex_5⟩ : ∃ y_ : Int32, y_ = (i_2 + (1 : Int32)) := ⟨_, rfl⟩
        replace vc := vc x_5 ex_5
        refine lv_iinc (v := x_5) (lv' := [(2, .int x_5), (4, .int x_4), (3, .int x_3), (0, .ref h_this), (1, .int p0)]) hx hb dX5_findMove_74 hl (k := 4) rfl (by rw [ex_5]; rfl) (by decide) rfl (fun ls hl => ?_)
        refine lv_goto (tgt := 2) hx hb dX5_findMove_77 (by decide) ?_
        obtain ⟨n1_, hlt_, hi_⟩ := vc
        exact ih_1 n1_ (x_5) hlt_ hi_ _ _ hP hD hS ls (lv_sub hl [3, 4, 0] rfl)
      · replace vc := vc.2 c_
        refine lv_aload_n hx hb dX5_findMove_53 rfl (lv_at hl 2 rfl) ?_
        refine va_get (D := D) (ci := 5) (v := .ref h_this_moveOf) (C := RX5) (T := TX5) (N := 1) hx hb hts mcX5_findMove_X5 hown hK.1 hP 0 rfl rfl 0 (by decide) (hts _ mwX5_findMove_1) (fun _ h9 => h9) rfl dX5_findMove_54 ?_
        refine lv_iload_n hx hb dX5_findMove_57 rfl (lv_at hl 3 rfl) ?_
        refine lv_iload hx hb dX5_findMove_58 (lv_at hl 0 rfl) ?_
        refine lv_ixor hx hb dX5_findMove_60 ?_
        have hi_6 := vc.1
        replace vc := vc.2
        refine va_iald hx hb hK.1 hP 1 0 rfl rfl hi_6 dX5_findMove_61 ?_
        refine lv_bipush (v := (-6 : Int32)) hx hb dX5_findMove_62 (by decide) ?_
        refine lv_icmp_ne (tgt := 74) hx hb dX5_findMove_64 (by decide) (fun c_ => ?_) (fun c_ => ?_)
        · replace vc := vc.1 c_
          obtain ⟨x_7, ex_7⟩ : ∃ y_ : Int32, y_ = (i_2 + (1 : Int32)) := ⟨_, rfl⟩
          replace vc := vc x_7 ex_7
          refine lv_iinc (v := x_7) (lv' := [(2, .int x_7), (4, .int x_4), (3, .int x_3), (0, .ref h_this), (1, .int p0)]) hx hb dX5_findMove_74 hl (k := 4) rfl (by rw [ex_7]; rfl) (by decide) rfl (fun ls hl => ?_)
          refine lv_goto (tgt := 2) hx hb dX5_findMove_77 (by decide) ?_
          obtain ⟨n1_, hlt_, hi_⟩ := vc
          exact ih_1 n1_ (x_7) hlt_ hi_ _ _ hP hD hS ls (lv_sub hl [3, 4, 0] rfl)
        · replace vc := vc.2 c_
          refine lv_bipush (v := (10 : Int32)) hx hb dX5_findMove_67 (by decide) ?_
          refine lv_iload_n hx hb dX5_findMove_69 rfl (lv_at hl 4 rfl) ?_
          refine lv_imul hx hb dX5_findMove_70 ?_
          refine lv_iconst (v := (2 : Int32)) hx hb dX5_findMove_71 (by decide) ?_
          refine lv_iadd hx hb dX5_findMove_72 ?_
          exact W.iret (v := (((10 : Int32) * i_2) + (2 : Int32))) hx hb hr (fun t ht hW => ⟨⟨(((10 : Int32) * i_2) + (2 : Int32)), (), rfl, vc, QB_mk (hP.sub [0, 1] rfl) (hD.sub [0, 1] rfl rfl) ht⟩, hS.F ht⟩) hS.2.2 dX5_findMove_73
    · replace vc := vc.2 c_
      refine lv_aload_n hx hb dX5_findMove_24 rfl (lv_at hl 2 rfl) ?_
      refine va_get (D := D) (ci := 5) (v := .ref h_this_moveOf) (C := RX5) (T := TX5) (N := 1) hx hb hts mcX5_findMove_X5 hown hK.1 hP 0 rfl rfl 0 (by decide) (hts _ mwX5_findMove_1) (fun _ h9 => h9) rfl dX5_findMove_25 ?_
      refine lv_iload_n hx hb dX5_findMove_28 rfl (lv_at hl 3 rfl) ?_
      refine lv_iload_n hx hb dX5_findMove_29 rfl (lv_at hl 1 rfl) ?_
      refine lv_ixor hx hb dX5_findMove_30 ?_
      have hi_8 := vc.1
      replace vc := vc.2
      refine va_iald hx hb hK.1 hP 1 0 rfl rfl hi_8 dX5_findMove_31 ?_
      refine lv_bipush (v := (-6 : Int32)) hx hb dX5_findMove_32 (by decide) ?_
      refine lv_icmp_ne (tgt := 44) hx hb dX5_findMove_34 (by decide) (fun c_ => ?_) (fun c_ => ?_)
      · replace vc := vc.1 c_
        refine lv_iload_n hx hb dX5_findMove_44 rfl (lv_at hl 3 rfl) ?_
        refine lv_iload hx hb dX5_findMove_45 (lv_at hl 0 rfl) ?_
        refine lv_iand hx hb dX5_findMove_47 ?_
        refine lv_iload hx hb dX5_findMove_48 (lv_at hl 0 rfl) ?_
        refine lv_icmp_ne (tgt := 74) hx hb dX5_findMove_50 (by decide) (fun c_ => ?_) (fun c_ => ?_)
        · replace vc := vc.1 c_
          obtain ⟨x_9, ex_9⟩ : ∃ y_ : Int32, y_ = (i_2 + (1 : Int32)) := ⟨_, rfl⟩
          replace vc := vc x_9 ex_9
          refine lv_iinc (v := x_9) (lv' := [(2, .int x_9), (4, .int x_4), (3, .int x_3), (0, .ref h_this), (1, .int p0)]) hx hb dX5_findMove_74 hl (k := 4) rfl (by rw [ex_9]; rfl) (by decide) rfl (fun ls hl => ?_)
          refine lv_goto (tgt := 2) hx hb dX5_findMove_77 (by decide) ?_
          obtain ⟨n1_, hlt_, hi_⟩ := vc
          exact ih_1 n1_ (x_9) hlt_ hi_ _ _ hP hD hS ls (lv_sub hl [3, 4, 0] rfl)
        · replace vc := vc.2 c_
          refine lv_aload_n hx hb dX5_findMove_53 rfl (lv_at hl 2 rfl) ?_
          refine va_get (D := D) (ci := 5) (v := .ref h_this_moveOf) (C := RX5) (T := TX5) (N := 1) hx hb hts mcX5_findMove_X5 hown hK.1 hP 0 rfl rfl 0 (by decide) (hts _ mwX5_findMove_1) (fun _ h9 => h9) rfl dX5_findMove_54 ?_
          refine lv_iload_n hx hb dX5_findMove_57 rfl (lv_at hl 3 rfl) ?_
          refine lv_iload hx hb dX5_findMove_58 (lv_at hl 0 rfl) ?_
          refine lv_ixor hx hb dX5_findMove_60 ?_
          have hi_10 := vc.1
          replace vc := vc.2
          refine va_iald hx hb hK.1 hP 1 0 rfl rfl hi_10 dX5_findMove_61 ?_
          refine lv_bipush (v := (-6 : Int32)) hx hb dX5_findMove_62 (by decide) ?_
          refine lv_icmp_ne (tgt := 74) hx hb dX5_findMove_64 (by decide) (fun c_ => ?_) (fun c_ => ?_)
          · replace vc := vc.1 c_
            obtain ⟨x_11, ex_11⟩ : ∃ y_ : Int32, y_ = (i_2 + (1 : Int32)) := ⟨_, rfl⟩
            replace vc := vc x_11 ex_11
            refine lv_iinc (v := x_11) (lv' := [(2, .int x_11), (4, .int x_4), (3, .int x_3), (0, .ref h_this), (1, .int p0)]) hx hb dX5_findMove_74 hl (k := 4) rfl (by rw [ex_11]; rfl) (by decide) rfl (fun ls hl => ?_)
            refine lv_goto (tgt := 2) hx hb dX5_findMove_77 (by decide) ?_
            obtain ⟨n1_, hlt_, hi_⟩ := vc
            exact ih_1 n1_ (x_11) hlt_ hi_ _ _ hP hD hS ls (lv_sub hl [3, 4, 0] rfl)
          · replace vc := vc.2 c_
            refine lv_bipush (v := (10 : Int32)) hx hb dX5_findMove_67 (by decide) ?_
            refine lv_iload_n hx hb dX5_findMove_69 rfl (lv_at hl 4 rfl) ?_
            refine lv_imul hx hb dX5_findMove_70 ?_
            refine lv_iconst (v := (2 : Int32)) hx hb dX5_findMove_71 (by decide) ?_
            refine lv_iadd hx hb dX5_findMove_72 ?_
            exact W.iret (v := (((10 : Int32) * i_2) + (2 : Int32))) hx hb hr (fun t ht hW => ⟨⟨(((10 : Int32) * i_2) + (2 : Int32)), (), rfl, vc, QB_mk (hP.sub [0, 1] rfl) (hD.sub [0, 1] rfl rfl) ht⟩, hS.F ht⟩) hS.2.2 dX5_findMove_73
      · replace vc := vc.2 c_
        refine lv_bipush (v := (10 : Int32)) hx hb dX5_findMove_37 (by decide) ?_
        refine lv_iload_n hx hb dX5_findMove_39 rfl (lv_at hl 4 rfl) ?_
        refine lv_imul hx hb dX5_findMove_40 ?_
        refine lv_iconst (v := (1 : Int32)) hx hb dX5_findMove_41 (by decide) ?_
        refine lv_iadd hx hb dX5_findMove_42 ?_
        exact W.iret (v := (((10 : Int32) * i_2) + (1 : Int32))) hx hb hr (fun t ht hW => ⟨⟨(((10 : Int32) * i_2) + (1 : Int32)), (), rfl, vc, QB_mk (hP.sub [0, 1] rfl) (hD.sub [0, 1] rfl rfl) ht⟩, hS.F ht⟩) hS.2.2 dX5_findMove_43

theorem mwX5_init_1 : Cond.methodLink RX5 3 objectInit ∈ wsX5_init := List.mem_of_getElem? (i := 1) rfl
theorem mwX5_init_2 : Cond.instanceMethod objectInit ∈ wsX5_init := List.mem_of_getElem? (i := 2) rfl
theorem mwX5_init_3 : Cond.code objectInit ⟨#[0xb1]⟩ 1 none ∈ wsX5_init := List.mem_of_getElem? (i := 3) rfl
theorem mwX5_init_4 : Cond.arrayClass .int ∈ wsX5_init := List.mem_of_getElem? (i := 4) rfl
theorem mwX5_init_5 : Cond.fieldLink RX5 9 "HassockSee$Unpicking" "moveOf" "[I" ∈ wsX5_init := List.mem_of_getElem? (i := 5) rfl
theorem mcX5_init_X5 : ∀ w ∈ u_ws RX5 TX5 1, w ∈ wsX5_init := fun _ h => (List.mem_cons_of_mem _ (List.mem_append_right _ h))
def KX5_init (l : Launch) (D : va_G) (cI cZ : ClassId) (Q : (Nat → Int32) → Prop) : Prop := ∀ (sz : Nat) (h_this : Nat), MV l yX5_init wsX5_init ({ frames := 1, cells := 1, slots := 256, locals := 30 }) [.ref h_this] D cI cZ sz [(h_this, .inr (5, [.null]))] (fun (u : Nat × (Nat → Int32)) => Q  (u.2)) (fun u => [(h_this, .inr (5, [.ref (u.1)])), ((u.1), .inl (cI, 256, .inl (u.2)))]) 1 256
set_option maxHeartbeats 4000000 in
set_option maxRecDepth 100000 in
theorem walkX5_init {l : Launch} {D : va_G} {cI cZ : ClassId} {QX5_init : (Nat → Int32) → Prop} {PX5_findMove : Int32 → (Nat → Int32) → Prop} {QX5_findMove : Int32 → (Nat → Int32) → Int32 → Prop} (kX5_findMove : KX5_findMove l D cI cZ PX5_findMove QX5_findMove) (IX5_init_15 : Nat → Int32 → (Nat → Int32) → Prop) (hvc : ((∃ n0 : Nat, IX5_init_15  n0 (0 : Int32) (fun _ => 0)) ∧ (∀ (n_1 : Nat) (i_2 : Int32) (f_3 : (Nat → Int32)), (IX5_init_15  n_1 i_2 f_3 → (((255 : Int32) < i_2 → QX5_init f_3) ∧ (¬ (255 : Int32) < i_2 → (PX5_findMove i_2 f_3 ∧ (∀ (r_4 : Int32), QX5_findMove i_2 f_3 r_4  → (vp_in i_2 256 ∧ (∀ x_6 : Int32, x_6 = (i_2 + (1 : Int32)) → (∃ n1 : Nat, n1 < n_1 ∧ IX5_init_15  n1 x_6 (upd f_3 (i_2).toNatClampNeg r_4)))))))))))) : KX5_init l D cI cZ QX5_init := by
  intro sz h_this 
  have vc := hvc
  clear hvc
  refine Met.ofW (cc := cX5_init) (maxL := 2) (ret := none) (by decide) rfl ?_
  intro p e s m args below meth c s₁ B hml hv
  obtain ⟨rfl, hsz, hP, hK, hD0⟩ := hv
  have hx := B.exec
  have hb := B.bytes
  have hr := B.returns
  have hts := atoms_spec (ws := wsX5_init) B.pre
  have hown : s.vm.findClass RX5 = some m.cls := findClass_of_methodNamed B.named
  have hlocks := B.notSynchronized
  have hin : meth.name = "<init>" := (name_of_methodNamed B.named B.method).1
  subst hsz
  have hD := hD0.self (sz := s.heap.size)
  generalize hAe : va_A [(h_this, .inr (5, [.null]))] s.heap.size = A at hD ⊢
  have hA : ∀ q : Nat, s.heap.size ≤ q → A q := fun q h => by rw [← hAe]; exact Or.inr h
  have hS : va_S A s.heap s.heap [] := va_S.rf
  have hP : va_P D vwCl [(h_this, .inr (5, [.null]))] s.heap := hP
  have hl := lv_entry ([.ref h_this]) (n := 2) (Nat.le_of_ble_eq_true rfl)
  rw [lg_entry_eq]
  generalize (lg_sl ([.ref h_this]) ++ List.replicate (2 - (lg_sl ([.ref h_this])).length) Slot.unset).toArray = ls at hl ⊢
  have hl : lv_has ls 2 [(0, .ref h_this)] := hl
  refine lv_aload_n hx hb dX5_init_0 rfl (lv_at hl 0 rfl) ?_
  refine W.objInit hx hb hown (hts _ mwX5_init_1) (hts _ mwX5_init_2) (hts _ mwX5_init_3) rfl (by rw [hml]; exact hl.1) rfl dX5_init_1 (Nat.le_of_ble_eq_true rfl) (Nat.le_of_ble_eq_true rfl) ?_
  refine W.eq (g2 := F0 m 4 ls []) rfl ?_
  refine lv_aload_n hx hb dX5_init_4 rfl (lv_at hl 0 rfl) ?_
  refine lv_sipush (v := (256 : Int32)) hx hb dX5_init_5 (by decide) ?_
  refine va_newa (atype := .int) (ty := .int) (N' := 256) (a0 := (256, .inl (fun _ => 0))) hx hb (hts _ mwX5_init_4) rfl hK.1 hP hD hS hA (fun _ => rfl) (by decide) (by decide) (Nat.le_of_ble_eq_true rfl) (Nat.le_of_ble_eq_true rfl) (Nat.le_of_ble_eq_true rfl) dX5_init_8 (fun q8 cA_ H hK_ hP hD hS => ?_)
  have ecA_ : cI = cA_ := Option.some.inj ((hK.1.2 0 _ rfl).2.symm.trans (hK_.2 2 _ rfl).2)
  subst ecA_
  have hP : va_P D vwCl [(h_this, .inr (5, [.null])), (q8, .inl (cI, 256, .inl (fun _ => 0)))] H := hP
  have hD : va_D A [(h_this, .inr (5, [.null])), (q8, .inl (cI, 256, .inl (fun _ => 0)))] := hD
  refine W.widen (k := 1) (n := 256) (Nat.le_of_ble_eq_true rfl) (Nat.le_of_ble_eq_true rfl) ?_
  refine va_putF (D := D) (ci := 5) (v := .ref q8) (ty := .array .int) (C := RX5) (T := TX5) (N := 1) hx hb hts mcX5_init_X5 tyX5 tyX5_ok nmX5 hown hK.1 hP hD hS 0 rfl rfl 0 (by decide) (hts _ mwX5_init_5) (fun _ h9 => h9) rfl hin rfl (by decide +kernel) rfl rfl (Nat.le_of_ble_eq_true rfl) dX5_init_10 (fun H locs hP hD hS => ?_)
  have hP : va_P D vwCl [(h_this, .inr (5, [.ref q8])), (q8, .inl (cI, 256, .inl (fun _ => 0)))] H := hP
  have hD : va_D A [(h_this, .inr (5, [.ref q8])), (q8, .inl (cI, 256, .inl (fun _ => 0)))] := hD
  refine lv_iconst (v := (0 : Int32)) hx hb dX5_init_13 (by decide) ?_
  refine lv_istore_n (lv' := [(1, .int (0 : Int32)), (0, .ref h_this)]) hx hb dX5_init_14 rfl hl (by decide) rfl (fun ls hl => ?_)
  obtain ⟨⟨n0_1, hi0_1⟩, vc⟩ := vc
  refine kloop (V := Int32 × (Nat → Int32)) (I := fun n v => IX5_init_15  n (v.1) (v.2)) (wv := fun v => [(h_this, .inr (5, [.ref q8])), (q8, .inl (cI, 256, .inl (v.2)))]) (lv := fun v => [(0, .ref h_this), (1, .int (v.1))]) n0_1 ((0 : Int32), (fun _ => 0)) hi0_1 hP hD hS (lv_sub hl [1, 0] rfl) ?_
  intro n_1 v_1 hi_1 ih_1 H locs hP hD hS ls hl
  obtain ⟨i_2, f_3⟩ := v_1
  replace vc := vc n_1 i_2 f_3 hi_1
  have hP : va_P D vwCl [(h_this, .inr (5, [.ref q8])), (q8, .inl (cI, 256, .inl f_3))] H := hP
  have hD : va_D A [(h_this, .inr (5, [.ref q8])), (q8, .inl (cI, 256, .inl f_3))] := hD
  have hl : lv_has ls 2 [(0, .ref h_this), (1, .int i_2)] := hl
  refine lv_iload_n hx hb dX5_init_15 rfl (lv_at hl 1 rfl) ?_
  refine lv_sipush (v := (255 : Int32)) hx hb dX5_init_16 (by decide) ?_
  refine lv_icmp_gt (tgt := 39) hx hb dX5_init_19 (by decide) (fun c_ => ?_) (fun c_ => ?_)
  · replace vc := vc.1 c_
    exact W.vret hx hb hr (fun t ht hW => ⟨⟨(q8, f_3), rfl, vc, QB_mk (hP.sub [0, 1] rfl) (hD.sub [0, 1] rfl rfl) ht⟩, hS.F ht⟩) hS.2.2 dX5_init_39
  · replace vc := vc.2 c_
    refine lv_aload_n hx hb dX5_init_22 rfl (lv_at hl 0 rfl) ?_
    refine va_get (D := D) (ci := 5) (v := .ref q8) (C := RX5) (T := TX5) (N := 1) hx hb hts mcX5_init_X5 hown hK.1 hP 0 rfl rfl 0 (by decide) (hts _ mwX5_init_5) (fun _ h9 => h9) rfl dX5_init_23 ?_
    refine lv_iload_n hx hb dX5_init_26 rfl (lv_at hl 1 rfl) ?_
    refine lv_aload_n hx hb dX5_init_27 rfl (lv_at hl 0 rfl) ?_
    refine lv_iload_n hx hb dX5_init_28 rfl (lv_at hl 1 rfl) ?_
    refine kj_i (wr := []) (rest := [.int i_2, .ref q8]) (kV ⟨hx, hb, hml, hown, hts⟩ (kX5_findMove _ h_this q8 i_2 f_3 vc.1) (cwV 1 hts gX5_init_X5_findMove rfl rfl rfl (by decide +kernel) ⟨(Nat.le_of_ble_eq_true rfl), (Nat.le_of_ble_eq_true rfl)⟩) hK hP hD [0, 1] rfl rfl 0 5 rfl rfl rfl rfl rfl hl.1 (Nat.le_of_ble_eq_true rfl) dX5_init_29 ⟨(Nat.le_of_ble_eq_true rfl), (Nat.le_of_ble_eq_true rfl)⟩) hP hD hS hA [0, 1] [] rfl rfl rfl rfl (fun r_4 u_ H locs hq_ hP hD hS => ?_)
    replace vc := vc.2 r_4  hq_
    have hP : va_P D vwCl [(h_this, .inr (5, [.ref q8])), (q8, .inl (cI, 256, .inl f_3))] H := hP
    have hD : va_D A [(h_this, .inr (5, [.ref q8])), (q8, .inl (cI, 256, .inl f_3))] := hD
    have hi_5 := vc.1
    replace vc := vc.2
    refine va_iast hx hb hK.1 hP hD hS 1 0 rfl rfl hi_5 dX5_init_32 (fun H locs hP hD hS => ?_)
    have hP : va_P D vwCl [(h_this, .inr (5, [.ref q8])), (q8, .inl (cI, 256, .inl (upd f_3 (i_2).toNatClampNeg r_4)))] H := hP
    have hD : va_D A [(h_this, .inr (5, [.ref q8])), (q8, .inl (cI, 256, .inl (upd f_3 (i_2).toNatClampNeg r_4)))] := hD
    obtain ⟨x_6, ex_6⟩ : ∃ y_ : Int32, y_ = (i_2 + (1 : Int32)) := ⟨_, rfl⟩
    replace vc := vc x_6 ex_6
    refine lv_iinc (v := x_6) (lv' := [(1, .int x_6), (0, .ref h_this)]) hx hb dX5_init_33 hl (k := 1) rfl (by rw [ex_6]; rfl) (by decide) rfl (fun ls hl => ?_)
    refine lv_goto (tgt := 15) hx hb dX5_init_36 (by decide) ?_
    obtain ⟨n1_, hlt_, hi_⟩ := vc
    exact ih_1 n1_ (x_6, (upd f_3 (i_2).toNatClampNeg r_4)) hlt_ hi_ _ _ hP hD hS ls (lv_sub hl [1, 0] rfl)

theorem mwX5_leastWinningMove_1 : Cond.fieldLink RX5 9 "HassockSee$Unpicking" "moveOf" "[I" ∈ wsX5_leastWinningMove := List.mem_of_getElem? (i := 1) rfl
theorem mcX5_leastWinningMove_X5 : ∀ w ∈ u_ws RX5 TX5 1, w ∈ wsX5_leastWinningMove := fun _ h => (List.mem_cons_of_mem _ (List.mem_append_right _ h))
def KX5_leastWinningMove (l : Launch) (D : va_G) (cI cZ : ClassId) (P : Int32 → (Nat → Int32) → Prop) (Q : Int32 → (Nat → Int32) → Int32 → Prop) : Prop := ∀ (sz : Nat) (h_this h_this_moveOf : Nat) (p0 : Int32) (v_moveOf : (Nat → Int32)), P p0 v_moveOf → MI l yX5_leastWinningMove wsX5_leastWinningMove ({ frames := 0, cells := 0, slots := 0, locals := 0 }) [.ref h_this, .int p0] D cI cZ sz [(h_this, .inr (5, [.ref h_this_moveOf])), (h_this_moveOf, .inl (cI, 256, .inl v_moveOf))] (fun r (u : Unit) => Q p0 v_moveOf r ) (fun u => [(h_this, .inr (5, [.ref h_this_moveOf])), (h_this_moveOf, .inl (cI, 256, .inl v_moveOf))]) 0 0
set_option maxHeartbeats 4000000 in
set_option maxRecDepth 100000 in
theorem walkX5_leastWinningMove {l : Launch} {D : va_G} {cI cZ : ClassId} {PX5_leastWinningMove : Int32 → (Nat → Int32) → Prop} {QX5_leastWinningMove : Int32 → (Nat → Int32) → Int32 → Prop}  (hvc : ∀ (p0 : Int32) (v_moveOf : (Nat → Int32)), PX5_leastWinningMove p0 v_moveOf → (vp_in (p0 &&& (255 : Int32)) 256 ∧ (QX5_leastWinningMove p0 v_moveOf (v_moveOf ((p0 &&& (255 : Int32))).toNatClampNeg) ))) : KX5_leastWinningMove l D cI cZ PX5_leastWinningMove QX5_leastWinningMove := by
  intro sz h_this h_this_moveOf p0 v_moveOf hpre
  have vc := hvc p0 v_moveOf hpre
  clear hvc
  refine Met.ofW (cc := cX5_leastWinningMove) (maxL := 2) (ret := (some .int)) (by decide) rfl ?_
  intro p e s m args below meth c s₁ B hml hv
  obtain ⟨rfl, hsz, hP, hK, hD0⟩ := hv
  have hx := B.exec
  have hb := B.bytes
  have hr := B.returns
  have hts := atoms_spec (ws := wsX5_leastWinningMove) B.pre
  have hown : s.vm.findClass RX5 = some m.cls := findClass_of_methodNamed B.named
  have hlocks := B.notSynchronized
  subst hsz
  have hD := hD0.self (sz := s.heap.size)
  generalize hAe : va_A [(h_this, .inr (5, [.ref h_this_moveOf])), (h_this_moveOf, .inl (cI, 256, .inl v_moveOf))] s.heap.size = A at hD ⊢
  have hA : ∀ q : Nat, s.heap.size ≤ q → A q := fun q h => by rw [← hAe]; exact Or.inr h
  have hS : va_S A s.heap s.heap [] := va_S.rf
  have hP : va_P D vwCl [(h_this, .inr (5, [.ref h_this_moveOf])), (h_this_moveOf, .inl (cI, 256, .inl v_moveOf))] s.heap := hP
  have hl := lv_entry ([.ref h_this, .int p0]) (n := 2) (Nat.le_of_ble_eq_true rfl)
  rw [lg_entry_eq]
  generalize (lg_sl ([.ref h_this, .int p0]) ++ List.replicate (2 - (lg_sl ([.ref h_this, .int p0])).length) Slot.unset).toArray = ls at hl ⊢
  have hl : lv_has ls 2 [(0, .ref h_this), (1, .int p0)] := hl
  refine lv_aload_n hx hb dX5_leastWinningMove_0 rfl (lv_at hl 0 rfl) ?_
  refine va_get (D := D) (ci := 5) (v := .ref h_this_moveOf) (C := RX5) (T := TX5) (N := 1) hx hb hts mcX5_leastWinningMove_X5 hown hK.1 hP 0 rfl rfl 0 (by decide) (hts _ mwX5_leastWinningMove_1) (fun _ h9 => h9) rfl dX5_leastWinningMove_1 ?_
  refine lv_iload_n hx hb dX5_leastWinningMove_4 rfl (lv_at hl 1 rfl) ?_
  refine lv_sipush (v := (255 : Int32)) hx hb dX5_leastWinningMove_5 (by decide) ?_
  refine lv_iand hx hb dX5_leastWinningMove_8 ?_
  have hi_1 := vc.1
  replace vc := vc.2
  refine va_iald hx hb hK.1 hP 1 0 rfl rfl hi_1 dX5_leastWinningMove_9 ?_
  exact W.iret (v := (v_moveOf ((p0 &&& (255 : Int32))).toNatClampNeg)) hx hb hr (fun t ht hW => ⟨⟨(v_moveOf ((p0 &&& (255 : Int32))).toNatClampNeg), (), rfl, vc, QB_mk (hP.sub [0, 1] rfl) (hD.sub [0, 1] rfl rfl) ht⟩, hS.F ht⟩) hS.2.2 dX5_leastWinningMove_10

theorem mwX6_init_1 : Cond.methodLink RX6 3 objectInit ∈ wsX6_init := List.mem_of_getElem? (i := 1) rfl
theorem mwX6_init_2 : Cond.instanceMethod objectInit ∈ wsX6_init := List.mem_of_getElem? (i := 2) rfl
theorem mwX6_init_3 : Cond.code objectInit ⟨#[0xb1]⟩ 1 none ∈ wsX6_init := List.mem_of_getElem? (i := 3) rfl
theorem mwX6_init_4 : Cond.arrayClass .int ∈ wsX6_init := List.mem_of_getElem? (i := 4) rfl
theorem mwX6_init_5 : Cond.fieldLink RX6 9 "HassockSee$Wear" "fitting" "[I" ∈ wsX6_init := List.mem_of_getElem? (i := 5) rfl
theorem mwX6_init_6 : Cond.fieldLink RX6 15 "HassockSee$Wear" "feltSo" "[I" ∈ wsX6_init := List.mem_of_getElem? (i := 6) rfl
theorem mcX6_init_X6 : ∀ w ∈ u_ws RX6 TX6 5, w ∈ wsX6_init := fun _ h => (List.mem_cons_of_mem _ (List.mem_append_right _ h))
def KX6_init (l : Launch) (D : va_G) (cI cZ : ClassId) (Q : Int32 → Int32 → Int32 → (Nat → Int32) → (Nat → Int32) → Prop) : Prop := ∀ (sz : Nat) (h_this : Nat), MV l yX6_init wsX6_init ({ frames := 1, cells := 2, slots := 190, locals := 30 }) [.ref h_this] D cI cZ sz [(h_this, .inr (6, [.int 0, .int 0, .int 0, .null, .null]))] (fun (u : Nat × Nat × Int32 × Int32 × Int32 × (Nat → Int32) × (Nat → Int32)) => Q  (u.2.2.1) (u.2.2.2.1) (u.2.2.2.2.1) (u.2.2.2.2.2.1) (u.2.2.2.2.2.2)) (fun u => [(h_this, .inr (6, [.int (u.2.2.1), .int (u.2.2.2.1), .int (u.2.2.2.2.1), .ref (u.1), .ref (u.2.1)])), ((u.1), .inl (cI, 90, .inl (u.2.2.2.2.2.1))), ((u.2.1), .inl (cI, 100, .inl (u.2.2.2.2.2.2)))]) 2 190
set_option maxHeartbeats 4000000 in
set_option maxRecDepth 100000 in
theorem walkX6_init {l : Launch} {D : va_G} {cI cZ : ClassId} {QX6_init : Int32 → Int32 → Int32 → (Nat → Int32) → (Nat → Int32) → Prop}  (hvc : QX6_init 0 0 0 (fun _ => 0) (fun _ => 0)) : KX6_init l D cI cZ QX6_init := by
  intro sz h_this 
  have vc := hvc
  clear hvc
  refine Met.ofW (cc := cX6_init) (maxL := 1) (ret := none) (by decide) rfl ?_
  intro p e s m args below meth c s₁ B hml hv
  obtain ⟨rfl, hsz, hP, hK, hD0⟩ := hv
  have hx := B.exec
  have hb := B.bytes
  have hr := B.returns
  have hts := atoms_spec (ws := wsX6_init) B.pre
  have hown : s.vm.findClass RX6 = some m.cls := findClass_of_methodNamed B.named
  have hlocks := B.notSynchronized
  have hin : meth.name = "<init>" := (name_of_methodNamed B.named B.method).1
  subst hsz
  have hD := hD0.self (sz := s.heap.size)
  generalize hAe : va_A [(h_this, .inr (6, [.int 0, .int 0, .int 0, .null, .null]))] s.heap.size = A at hD ⊢
  have hA : ∀ q : Nat, s.heap.size ≤ q → A q := fun q h => by rw [← hAe]; exact Or.inr h
  have hS : va_S A s.heap s.heap [] := va_S.rf
  have hP : va_P D vwCl [(h_this, .inr (6, [.int 0, .int 0, .int 0, .null, .null]))] s.heap := hP
  have hl := lv_entry ([.ref h_this]) (n := 1) (Nat.le_of_ble_eq_true rfl)
  rw [lg_entry_eq]
  generalize (lg_sl ([.ref h_this]) ++ List.replicate (1 - (lg_sl ([.ref h_this])).length) Slot.unset).toArray = ls at hl ⊢
  have hl : lv_has ls 1 [(0, .ref h_this)] := hl
  refine lv_aload_n hx hb dX6_init_0 rfl (lv_at hl 0 rfl) ?_
  refine W.objInit hx hb hown (hts _ mwX6_init_1) (hts _ mwX6_init_2) (hts _ mwX6_init_3) rfl (by rw [hml]; exact hl.1) rfl dX6_init_1 (Nat.le_of_ble_eq_true rfl) (Nat.le_of_ble_eq_true rfl) ?_
  refine W.eq (g2 := F0 m 4 ls []) rfl ?_
  refine lv_aload_n hx hb dX6_init_4 rfl (lv_at hl 0 rfl) ?_
  refine lv_bipush (v := (90 : Int32)) hx hb dX6_init_5 (by decide) ?_
  refine va_newa (atype := .int) (ty := .int) (N' := 90) (a0 := (90, .inl (fun _ => 0))) hx hb (hts _ mwX6_init_4) rfl hK.1 hP hD hS hA (fun _ => rfl) (by decide) (by decide) (Nat.le_of_ble_eq_true rfl) (Nat.le_of_ble_eq_true rfl) (Nat.le_of_ble_eq_true rfl) dX6_init_7 (fun q7 cA_ H hK_ hP hD hS => ?_)
  have ecA_ : cI = cA_ := Option.some.inj ((hK.1.2 0 _ rfl).2.symm.trans (hK_.2 2 _ rfl).2)
  subst ecA_
  have hP : va_P D vwCl [(h_this, .inr (6, [.int 0, .int 0, .int 0, .null, .null])), (q7, .inl (cI, 90, .inl (fun _ => 0)))] H := hP
  have hD : va_D A [(h_this, .inr (6, [.int 0, .int 0, .int 0, .null, .null])), (q7, .inl (cI, 90, .inl (fun _ => 0)))] := hD
  refine W.widen (k := 1) (n := 90) (Nat.le_of_ble_eq_true rfl) (Nat.le_of_ble_eq_true rfl) ?_
  refine va_putF (D := D) (ci := 6) (v := .ref q7) (ty := .array .int) (C := RX6) (T := TX6) (N := 5) hx hb hts mcX6_init_X6 tyX6 tyX6_ok nmX6 hown hK.1 hP hD hS 0 rfl rfl 3 (by decide) (hts _ mwX6_init_5) (fun _ h9 => h9) rfl hin rfl (by decide +kernel) rfl rfl (Nat.le_of_ble_eq_true rfl) dX6_init_9 (fun H locs hP hD hS => ?_)
  have hP : va_P D vwCl [(h_this, .inr (6, [.int 0, .int 0, .int 0, .ref q7, .null])), (q7, .inl (cI, 90, .inl (fun _ => 0)))] H := hP
  have hD : va_D A [(h_this, .inr (6, [.int 0, .int 0, .int 0, .ref q7, .null])), (q7, .inl (cI, 90, .inl (fun _ => 0)))] := hD
  refine lv_aload_n hx hb dX6_init_12 rfl (lv_at hl 0 rfl) ?_
  refine lv_bipush (v := (100 : Int32)) hx hb dX6_init_13 (by decide) ?_
  refine va_newa (atype := .int) (ty := .int) (N' := 100) (a0 := (100, .inl (fun _ => 0))) hx hb (hts _ mwX6_init_4) rfl hK.1 hP hD hS hA (fun _ => rfl) (by decide) (by decide) (Nat.le_of_ble_eq_true rfl) (Nat.le_of_ble_eq_true rfl) (Nat.le_of_ble_eq_true rfl) dX6_init_15 (fun q15 cA_ H hK_ hP hD hS => ?_)
  have ecA_ : cI = cA_ := Option.some.inj ((hK.1.2 0 _ rfl).2.symm.trans (hK_.2 2 _ rfl).2)
  subst ecA_
  have hP : va_P D vwCl [(h_this, .inr (6, [.int 0, .int 0, .int 0, .ref q7, .null])), (q7, .inl (cI, 90, .inl (fun _ => 0))), (q15, .inl (cI, 100, .inl (fun _ => 0)))] H := hP
  have hD : va_D A [(h_this, .inr (6, [.int 0, .int 0, .int 0, .ref q7, .null])), (q7, .inl (cI, 90, .inl (fun _ => 0))), (q15, .inl (cI, 100, .inl (fun _ => 0)))] := hD
  refine W.widen (k := 2) (n := 190) (Nat.le_of_ble_eq_true rfl) (Nat.le_of_ble_eq_true rfl) ?_
  refine va_putF (D := D) (ci := 6) (v := .ref q15) (ty := .array .int) (C := RX6) (T := TX6) (N := 5) hx hb hts mcX6_init_X6 tyX6 tyX6_ok nmX6 hown hK.1 hP hD hS 0 rfl rfl 4 (by decide) (hts _ mwX6_init_6) (fun _ h9 => h9) rfl hin rfl (by decide +kernel) rfl rfl (Nat.le_of_ble_eq_true rfl) dX6_init_17 (fun H locs hP hD hS => ?_)
  have hP : va_P D vwCl [(h_this, .inr (6, [.int 0, .int 0, .int 0, .ref q7, .ref q15])), (q7, .inl (cI, 90, .inl (fun _ => 0))), (q15, .inl (cI, 100, .inl (fun _ => 0)))] H := hP
  have hD : va_D A [(h_this, .inr (6, [.int 0, .int 0, .int 0, .ref q7, .ref q15])), (q7, .inl (cI, 90, .inl (fun _ => 0))), (q15, .inl (cI, 100, .inl (fun _ => 0)))] := hD
  exact W.vret hx hb hr (fun t ht hW => ⟨⟨(q7, q15, 0, 0, 0, (fun _ => 0), (fun _ => 0)), rfl, vc, QB_mk (hP.sub [0, 1, 2] rfl) (hD.sub [0, 1, 2] rfl rfl) ht⟩, hS.F ht⟩) hS.2.2 dX6_init_20

theorem mwX6_fit_1 : Cond.fieldLink RX6 24 "HassockSee$Wear" "count" "I" ∈ wsX6_fit := List.mem_of_getElem? (i := 1) rfl
theorem mwX6_fit_2 : Cond.fieldLink RX6 9 "HassockSee$Wear" "fitting" "[I" ∈ wsX6_fit := List.mem_of_getElem? (i := 2) rfl
theorem mcX6_fit_X6 : ∀ w ∈ u_ws RX6 TX6 5, w ∈ wsX6_fit := fun _ h => (List.mem_cons_of_mem _ (List.mem_append_left _ (List.mem_append_right _ h)))
def KX6_fit (l : Launch) (D : va_G) (cI cZ : ClassId) (P : Int32 → (Nat → Int32) → Int32 → (Nat → Int32) → (Nat → Int32) → Prop) (Q : Int32 → (Nat → Int32) → Int32 → (Nat → Int32) → (Nat → Int32) → Int32 → (Nat → Int32) → Prop) : Prop := ∀ (sz : Nat) (h_this h_a0 h_this_fitting h_this_feltSo h_a0_sundays h_a0_felt : Nat) (v_count : Int32) (v_bestSunday : Int32) (v_mostLeft : Int32) (v_fitting : (Nat → Int32)) (v_a0_count : Int32) (v_a0_felt : (Nat → Int32)) (v_a0_sundays : (Nat → Int32)), P v_count v_fitting v_a0_count v_a0_felt v_a0_sundays → MV l yX6_fit wsX6_fit ({ frames := 3, cells := 0, slots := 0, locals := 85 }) [.ref h_this, .ref h_a0] D cI cZ sz [(h_this, .inr (6, [.int v_count, .int v_bestSunday, .int v_mostLeft, .ref h_this_fitting, .ref h_this_feltSo])), (h_this_fitting, .inl (cI, 90, .inl v_fitting)), (h_a0, .inr (4, [.int v_a0_count, .ref h_a0_sundays, .ref h_a0_felt])), (h_a0_felt, .inl (cI, 8, .inl v_a0_felt)), (h_a0_sundays, .inl (cI, 8, .inl v_a0_sundays))] (fun (u : Int32 × (Nat → Int32)) => Q v_count v_fitting v_a0_count v_a0_felt v_a0_sundays (u.1) (u.2)) (fun u => [(h_this, .inr (6, [.int (u.1), .int v_bestSunday, .int v_mostLeft, .ref h_this_fitting, .ref h_this_feltSo])), (h_this_fitting, .inl (cI, 90, .inl (u.2))), (h_a0, .inr (4, [.int v_a0_count, .ref h_a0_sundays, .ref h_a0_felt])), (h_a0_felt, .inl (cI, 8, .inl v_a0_felt)), (h_a0_sundays, .inl (cI, 8, .inl v_a0_sundays))]) 0 0
set_option maxHeartbeats 4000000 in
set_option maxRecDepth 100000 in
theorem walkX6_fit {l : Launch} {D : va_G} {cI cZ : ClassId} {PX6_fit : Int32 → (Nat → Int32) → Int32 → (Nat → Int32) → (Nat → Int32) → Prop} {QX6_fit : Int32 → (Nat → Int32) → Int32 → (Nat → Int32) → (Nat → Int32) → Int32 → (Nat → Int32) → Prop} {PX4_allAreSo : Int32 → Int32 → Int32 → (Nat → Int32) → (Nat → Int32) → Prop} {QX4_allAreSo : Int32 → Int32 → Int32 → (Nat → Int32) → (Nat → Int32) → Int32 → Prop} (kX4_allAreSo : KX4_allAreSo l D cI cZ PX4_allAreSo QX4_allAreSo) (IX6_fit_7 : Int32 → (Nat → Int32) → Int32 → (Nat → Int32) → (Nat → Int32) → Nat → Int32 → Int32 → (Nat → Int32) → Prop) (IX6_fit_15 : Int32 → (Nat → Int32) → Int32 → (Nat → Int32) → (Nat → Int32) → Nat → Int32 → Int32 → Int32 → (Nat → Int32) → Prop) (hvc : ∀ (v_count : Int32) (v_fitting : (Nat → Int32)) (v_a0_count : Int32) (v_a0_felt : (Nat → Int32)) (v_a0_sundays : (Nat → Int32)), PX6_fit v_count v_fitting v_a0_count v_a0_felt v_a0_sundays → ((∃ n0 : Nat, IX6_fit_7 v_count v_fitting v_a0_count v_a0_felt v_a0_sundays n0 (1 : Int32) (0 : Int32) v_fitting) ∧ (∀ (n_1 : Nat) (i_2 : Int32) (g_3 : Int32) (f_4 : (Nat → Int32)), (IX6_fit_7 v_count v_fitting v_a0_count v_a0_felt v_a0_sundays n_1 i_2 g_3 f_4 → (((9 : Int32) < i_2 → (QX6_fit v_count v_fitting v_a0_count v_a0_felt v_a0_sundays g_3 f_4)) ∧ (¬ (9 : Int32) < i_2 → ((∃ n0 : Nat, IX6_fit_15 v_count v_fitting v_a0_count v_a0_felt v_a0_sundays n0 i_2 (0 : Int32) g_3 f_4) ∧ (∀ (n_5 : Nat) (i_6 : Int32) (g_7 : Int32) (f_8 : (Nat → Int32)), (IX6_fit_15 v_count v_fitting v_a0_count v_a0_felt v_a0_sundays n_5 i_2 i_6 g_7 f_8 → (((9 : Int32) < i_6 → (∀ x_9 : Int32, x_9 = (i_2 + (1 : Int32)) → (∃ n1 : Nat, n1 < n_1 ∧ IX6_fit_7 v_count v_fitting v_a0_count v_a0_felt v_a0_sundays n1 x_9 g_7 f_8))) ∧ (¬ (9 : Int32) < i_6 → (((90 : Int32) ≤ g_7 → (∀ x_10 : Int32, x_10 = (i_6 + (1 : Int32)) → (∃ n1 : Nat, n1 < n_5 ∧ IX6_fit_15 v_count v_fitting v_a0_count v_a0_felt v_a0_sundays n1 i_2 x_10 g_7 f_8))) ∧ (¬ (90 : Int32) ≤ g_7 → (PX4_allAreSo i_2 i_6 v_a0_count v_a0_felt v_a0_sundays ∧ (∀ (r_11 : Int32), QX4_allAreSo i_2 i_6 v_a0_count v_a0_felt v_a0_sundays r_11  → ((r_11 = 0 → (∀ x_12 : Int32, x_12 = (i_6 + (1 : Int32)) → (∃ n1 : Nat, n1 < n_5 ∧ IX6_fit_15 v_count v_fitting v_a0_count v_a0_felt v_a0_sundays n1 i_2 x_12 g_7 f_8))) ∧ (¬ r_11 = 0 → (∀ x_13 : Int32, x_13 = (((10 : Int32) * i_2) + i_6) → (vp_in g_7 90 ∧ (∀ x_15 : Int32, x_15 = (g_7 + (1 : Int32)) → (∀ x_16 : Int32, x_16 = (i_6 + (1 : Int32)) → (∃ n1 : Nat, n1 < n_5 ∧ IX6_fit_15 v_count v_fitting v_a0_count v_a0_felt v_a0_sundays n1 i_2 x_16 x_15 (upd f_8 (g_7).toNatClampNeg x_13))))))))))))))))))))))) : KX6_fit l D cI cZ PX6_fit QX6_fit := by
  intro sz h_this h_a0 h_this_fitting h_this_feltSo h_a0_sundays h_a0_felt v_count v_bestSunday v_mostLeft v_fitting v_a0_count v_a0_felt v_a0_sundays hpre
  have vc := hvc v_count v_fitting v_a0_count v_a0_felt v_a0_sundays hpre
  clear hvc
  refine Met.ofW (cc := cX6_fit) (maxL := 4) (ret := none) (by decide) rfl ?_
  intro p e s m args below meth c s₁ B hml hv
  obtain ⟨rfl, hsz, hP, hK, hD0⟩ := hv
  have hx := B.exec
  have hb := B.bytes
  have hr := B.returns
  have hts := atoms_spec (ws := wsX6_fit) B.pre
  have hown : s.vm.findClass RX6 = some m.cls := findClass_of_methodNamed B.named
  have hlocks := B.notSynchronized
  subst hsz
  have hD := hD0.self (sz := s.heap.size)
  generalize hAe : va_A [(h_this, .inr (6, [.int v_count, .int v_bestSunday, .int v_mostLeft, .ref h_this_fitting, .ref h_this_feltSo])), (h_this_fitting, .inl (cI, 90, .inl v_fitting)), (h_a0, .inr (4, [.int v_a0_count, .ref h_a0_sundays, .ref h_a0_felt])), (h_a0_felt, .inl (cI, 8, .inl v_a0_felt)), (h_a0_sundays, .inl (cI, 8, .inl v_a0_sundays))] s.heap.size = A at hD ⊢
  have hA : ∀ q : Nat, s.heap.size ≤ q → A q := fun q h => by rw [← hAe]; exact Or.inr h
  have hS : va_S A s.heap s.heap [] := va_S.rf
  have hP : va_P D vwCl [(h_this, .inr (6, [.int v_count, .int v_bestSunday, .int v_mostLeft, .ref h_this_fitting, .ref h_this_feltSo])), (h_this_fitting, .inl (cI, 90, .inl v_fitting)), (h_a0, .inr (4, [.int v_a0_count, .ref h_a0_sundays, .ref h_a0_felt])), (h_a0_felt, .inl (cI, 8, .inl v_a0_felt)), (h_a0_sundays, .inl (cI, 8, .inl v_a0_sundays))] s.heap := hP
  have hl := lv_entry ([.ref h_this, .ref h_a0]) (n := 4) (Nat.le_of_ble_eq_true rfl)
  rw [lg_entry_eq]
  generalize (lg_sl ([.ref h_this, .ref h_a0]) ++ List.replicate (4 - (lg_sl ([.ref h_this, .ref h_a0])).length) Slot.unset).toArray = ls at hl ⊢
  have hl : lv_has ls 4 [(0, .ref h_this), (1, .ref h_a0)] := hl
  refine lv_aload_n hx hb dX6_fit_0 rfl (lv_at hl 0 rfl) ?_
  refine lv_iconst (v := (0 : Int32)) hx hb dX6_fit_1 (by decide) ?_
  refine va_put (D := D) (ci := 6) (v := .int (0 : Int32)) (ty := .int) (C := RX6) (T := TX6) (N := 5) hx hb hts mcX6_fit_X6 tyX6 tyX6_ok nmX6 hown hK.1 hP hD hS 0 rfl rfl 0 (by decide) (hts _ mwX6_fit_1) (fun _ h9 => h9) rfl (by decide +kernel) rfl rfl (Nat.le_of_ble_eq_true rfl) dX6_fit_2 (fun H locs hP hD hS => ?_)
  have hP : va_P D vwCl [(h_this, .inr (6, [.int (0 : Int32), .int v_bestSunday, .int v_mostLeft, .ref h_this_fitting, .ref h_this_feltSo])), (h_this_fitting, .inl (cI, 90, .inl v_fitting)), (h_a0, .inr (4, [.int v_a0_count, .ref h_a0_sundays, .ref h_a0_felt])), (h_a0_felt, .inl (cI, 8, .inl v_a0_felt)), (h_a0_sundays, .inl (cI, 8, .inl v_a0_sundays))] H := hP
  have hD : va_D A [(h_this, .inr (6, [.int (0 : Int32), .int v_bestSunday, .int v_mostLeft, .ref h_this_fitting, .ref h_this_feltSo])), (h_this_fitting, .inl (cI, 90, .inl v_fitting)), (h_a0, .inr (4, [.int v_a0_count, .ref h_a0_sundays, .ref h_a0_felt])), (h_a0_felt, .inl (cI, 8, .inl v_a0_felt)), (h_a0_sundays, .inl (cI, 8, .inl v_a0_sundays))] := hD
  refine lv_iconst (v := (1 : Int32)) hx hb dX6_fit_5 (by decide) ?_
  refine lv_istore_n (lv' := [(2, .int (1 : Int32)), (0, .ref h_this), (1, .ref h_a0)]) hx hb dX6_fit_6 rfl hl (by decide) rfl (fun ls hl => ?_)
  obtain ⟨⟨n0_1, hi0_1⟩, vc⟩ := vc
  refine kloop (V := Int32 × Int32 × (Nat → Int32)) (I := fun n v => IX6_fit_7 v_count v_fitting v_a0_count v_a0_felt v_a0_sundays n (v.1) (v.2.1) (v.2.2)) (wv := fun v => [(h_this, .inr (6, [.int (v.2.1), .int v_bestSunday, .int v_mostLeft, .ref h_this_fitting, .ref h_this_feltSo])), (h_this_fitting, .inl (cI, 90, .inl (v.2.2))), (h_a0, .inr (4, [.int v_a0_count, .ref h_a0_sundays, .ref h_a0_felt])), (h_a0_felt, .inl (cI, 8, .inl v_a0_felt)), (h_a0_sundays, .inl (cI, 8, .inl v_a0_sundays))]) (lv := fun v => [(0, .ref h_this), (1, .ref h_a0), (2, .int (v.1))]) n0_1 ((1 : Int32), (0 : Int32), v_fitting) hi0_1 hP hD hS (lv_sub hl [1, 2, 0] rfl) ?_
  intro n_1 v_1 hi_1 ih_1 H locs hP hD hS ls hl
  obtain ⟨i_2, g_3, f_4⟩ := v_1
  replace vc := vc n_1 i_2 g_3 f_4 hi_1
  have hP : va_P D vwCl [(h_this, .inr (6, [.int g_3, .int v_bestSunday, .int v_mostLeft, .ref h_this_fitting, .ref h_this_feltSo])), (h_this_fitting, .inl (cI, 90, .inl f_4)), (h_a0, .inr (4, [.int v_a0_count, .ref h_a0_sundays, .ref h_a0_felt])), (h_a0_felt, .inl (cI, 8, .inl v_a0_felt)), (h_a0_sundays, .inl (cI, 8, .inl v_a0_sundays))] H := hP
  have hD : va_D A [(h_this, .inr (6, [.int g_3, .int v_bestSunday, .int v_mostLeft, .ref h_this_fitting, .ref h_this_feltSo])), (h_this_fitting, .inl (cI, 90, .inl f_4)), (h_a0, .inr (4, [.int v_a0_count, .ref h_a0_sundays, .ref h_a0_felt])), (h_a0_felt, .inl (cI, 8, .inl v_a0_felt)), (h_a0_sundays, .inl (cI, 8, .inl v_a0_sundays))] := hD
  have hl : lv_has ls 4 [(0, .ref h_this), (1, .ref h_a0), (2, .int i_2)] := hl
  refine lv_iload_n hx hb dX6_fit_7 rfl (lv_at hl 2 rfl) ?_
  refine lv_bipush (v := (9 : Int32)) hx hb dX6_fit_8 (by decide) ?_
  refine lv_icmp_gt (tgt := 76) hx hb dX6_fit_10 (by decide) (fun c_ => ?_) (fun c_ => ?_)
  · replace vc := vc.1 c_
    exact W.vret hx hb hr (fun t ht hW => ⟨⟨(g_3, f_4), rfl, vc, QB_mk (hP.sub [0, 1, 2, 3, 4] rfl) (hD.sub [0, 1, 2, 3, 4] rfl rfl) ht⟩, hS.F ht⟩) hS.2.2 dX6_fit_76
  · replace vc := vc.2 c_
    refine lv_iconst (v := (0 : Int32)) hx hb dX6_fit_13 (by decide) ?_
    refine lv_istore_n (lv' := [(3, .int (0 : Int32)), (0, .ref h_this), (1, .ref h_a0), (2, .int i_2)]) hx hb dX6_fit_14 rfl hl (by decide) rfl (fun ls hl => ?_)
    obtain ⟨⟨n0_5, hi0_5⟩, vc⟩ := vc
    refine kloop (V := Int32 × Int32 × (Nat → Int32)) (I := fun n v => IX6_fit_15 v_count v_fitting v_a0_count v_a0_felt v_a0_sundays n i_2 (v.1) (v.2.1) (v.2.2)) (wv := fun v => [(h_this, .inr (6, [.int (v.2.1), .int v_bestSunday, .int v_mostLeft, .ref h_this_fitting, .ref h_this_feltSo])), (h_this_fitting, .inl (cI, 90, .inl (v.2.2))), (h_a0, .inr (4, [.int v_a0_count, .ref h_a0_sundays, .ref h_a0_felt])), (h_a0_felt, .inl (cI, 8, .inl v_a0_felt)), (h_a0_sundays, .inl (cI, 8, .inl v_a0_sundays))]) (lv := fun v => [(0, .ref h_this), (1, .ref h_a0), (2, .int i_2), (3, .int (v.1))]) n0_5 ((0 : Int32), g_3, f_4) hi0_5 hP hD hS (lv_sub hl [1, 2, 3, 0] rfl) ?_
    intro n_5 v_5 hi_5 ih_5 H locs hP hD hS ls hl
    obtain ⟨i_6, g_7, f_8⟩ := v_5
    replace vc := vc n_5 i_6 g_7 f_8 hi_5
    have hP : va_P D vwCl [(h_this, .inr (6, [.int g_7, .int v_bestSunday, .int v_mostLeft, .ref h_this_fitting, .ref h_this_feltSo])), (h_this_fitting, .inl (cI, 90, .inl f_8)), (h_a0, .inr (4, [.int v_a0_count, .ref h_a0_sundays, .ref h_a0_felt])), (h_a0_felt, .inl (cI, 8, .inl v_a0_felt)), (h_a0_sundays, .inl (cI, 8, .inl v_a0_sundays))] H := hP
    have hD : va_D A [(h_this, .inr (6, [.int g_7, .int v_bestSunday, .int v_mostLeft, .ref h_this_fitting, .ref h_this_feltSo])), (h_this_fitting, .inl (cI, 90, .inl f_8)), (h_a0, .inr (4, [.int v_a0_count, .ref h_a0_sundays, .ref h_a0_felt])), (h_a0_felt, .inl (cI, 8, .inl v_a0_felt)), (h_a0_sundays, .inl (cI, 8, .inl v_a0_sundays))] := hD
    have hl : lv_has ls 4 [(0, .ref h_this), (1, .ref h_a0), (2, .int i_2), (3, .int i_6)] := hl
    refine lv_iload_n hx hb dX6_fit_15 rfl (lv_at hl 3 rfl) ?_
    refine lv_bipush (v := (9 : Int32)) hx hb dX6_fit_16 (by decide) ?_
    refine lv_icmp_gt (tgt := 70) hx hb dX6_fit_18 (by decide) (fun c_ => ?_) (fun c_ => ?_)
    · replace vc := vc.1 c_
      obtain ⟨x_9, ex_9⟩ : ∃ y_ : Int32, y_ = (i_2 + (1 : Int32)) := ⟨_, rfl⟩
      replace vc := vc x_9 ex_9
      refine lv_iinc (v := x_9) (lv' := [(2, .int x_9), (0, .ref h_this), (1, .ref h_a0), (3, .int i_6)]) hx hb dX6_fit_70 hl (k := 2) rfl (by rw [ex_9]; rfl) (by decide) rfl (fun ls hl => ?_)
      refine lv_goto (tgt := 7) hx hb dX6_fit_73 (by decide) ?_
      obtain ⟨n1_, hlt_, hi_⟩ := vc
      exact ih_1 n1_ (x_9, g_7, f_8) hlt_ hi_ _ _ hP hD hS ls (lv_sub hl [1, 2, 0] rfl)
    · replace vc := vc.2 c_
      refine lv_aload_n hx hb dX6_fit_21 rfl (lv_at hl 0 rfl) ?_
      refine va_get (D := D) (ci := 6) (v := .int g_7) (C := RX6) (T := TX6) (N := 5) hx hb hts mcX6_fit_X6 hown hK.1 hP 0 rfl rfl 0 (by decide) (hts _ mwX6_fit_1) (fun _ h9 => h9) rfl dX6_fit_22 ?_
      refine lv_bipush (v := (90 : Int32)) hx hb dX6_fit_25 (by decide) ?_
      refine lv_icmp_ge (tgt := 64) hx hb dX6_fit_27 (by decide) (fun c_ => ?_) (fun c_ => ?_)
      · replace vc := vc.1 c_
        obtain ⟨x_10, ex_10⟩ : ∃ y_ : Int32, y_ = (i_6 + (1 : Int32)) := ⟨_, rfl⟩
        replace vc := vc x_10 ex_10
        refine lv_iinc (v := x_10) (lv' := [(3, .int x_10), (0, .ref h_this), (1, .ref h_a0), (2, .int i_2)]) hx hb dX6_fit_64 hl (k := 3) rfl (by rw [ex_10]; rfl) (by decide) rfl (fun ls hl => ?_)
        refine lv_goto (tgt := 15) hx hb dX6_fit_67 (by decide) ?_
        obtain ⟨n1_, hlt_, hi_⟩ := vc
        exact ih_5 n1_ (x_10, g_7, f_8) hlt_ hi_ _ _ hP hD hS ls (lv_sub hl [1, 2, 3, 0] rfl)
      · replace vc := vc.2 c_
        refine lv_aload_n hx hb dX6_fit_30 rfl (lv_at hl 1 rfl) ?_
        refine lv_iload_n hx hb dX6_fit_31 rfl (lv_at hl 2 rfl) ?_
        refine lv_iload_n hx hb dX6_fit_32 rfl (lv_at hl 3 rfl) ?_
        refine kj_i (wr := [(h_this, .inr (6, [.int g_7, .int v_bestSunday, .int v_mostLeft, .ref h_this_fitting, .ref h_this_feltSo])), (h_this_fitting, .inl (cI, 90, .inl f_8))]) (rest := []) (kV ⟨hx, hb, hml, hown, hts⟩ (kX4_allAreSo _ h_a0 h_a0_sundays h_a0_felt i_2 i_6 v_a0_count v_a0_felt v_a0_sundays vc.1) (cwV 2 hts gX6_fit_X4_allAreSo rfl rfl rfl (by decide +kernel) ⟨(Nat.le_of_ble_eq_true rfl), (Nat.le_of_ble_eq_true rfl)⟩) hK hP hD [2, 3, 4] rfl rfl 0 4 rfl rfl rfl rfl rfl hl.1 (Nat.le_of_ble_eq_true rfl) dX6_fit_33 ⟨(Nat.le_of_ble_eq_true rfl), (Nat.le_of_ble_eq_true rfl)⟩) hP hD hS hA [2, 3, 4] [0, 1] rfl rfl rfl rfl (fun r_11 u_ H locs hq_ hP hD hS => ?_)
        replace vc := vc.2 r_11  hq_
        have hP : va_P D vwCl [(h_this, .inr (6, [.int g_7, .int v_bestSunday, .int v_mostLeft, .ref h_this_fitting, .ref h_this_feltSo])), (h_this_fitting, .inl (cI, 90, .inl f_8)), (h_a0, .inr (4, [.int v_a0_count, .ref h_a0_sundays, .ref h_a0_felt])), (h_a0_felt, .inl (cI, 8, .inl v_a0_felt)), (h_a0_sundays, .inl (cI, 8, .inl v_a0_sundays))] H := hP
        have hD : va_D A [(h_this, .inr (6, [.int g_7, .int v_bestSunday, .int v_mostLeft, .ref h_this_fitting, .ref h_this_feltSo])), (h_this_fitting, .inl (cI, 90, .inl f_8)), (h_a0, .inr (4, [.int v_a0_count, .ref h_a0_sundays, .ref h_a0_felt])), (h_a0_felt, .inl (cI, 8, .inl v_a0_felt)), (h_a0_sundays, .inl (cI, 8, .inl v_a0_sundays))] := hD
        refine lv_if_eq (tgt := 64) hx hb dX6_fit_36 (by decide) (fun c_ => ?_) (fun c_ => ?_)
        · replace vc := vc.1 c_
          obtain ⟨x_12, ex_12⟩ : ∃ y_ : Int32, y_ = (i_6 + (1 : Int32)) := ⟨_, rfl⟩
          replace vc := vc x_12 ex_12
          refine lv_iinc (v := x_12) (lv' := [(3, .int x_12), (0, .ref h_this), (1, .ref h_a0), (2, .int i_2)]) hx hb dX6_fit_64 hl (k := 3) rfl (by rw [ex_12]; rfl) (by decide) rfl (fun ls hl => ?_)
          refine lv_goto (tgt := 15) hx hb dX6_fit_67 (by decide) ?_
          obtain ⟨n1_, hlt_, hi_⟩ := vc
          exact ih_5 n1_ (x_12, g_7, f_8) hlt_ hi_ _ _ hP hD hS ls (lv_sub hl [1, 2, 3, 0] rfl)
        · replace vc := vc.2 c_
          refine lv_aload_n hx hb dX6_fit_39 rfl (lv_at hl 0 rfl) ?_
          refine va_get (D := D) (ci := 6) (v := .ref h_this_fitting) (C := RX6) (T := TX6) (N := 5) hx hb hts mcX6_fit_X6 hown hK.1 hP 0 rfl rfl 3 (by decide) (hts _ mwX6_fit_2) (fun _ h9 => h9) rfl dX6_fit_40 ?_
          refine lv_aload_n hx hb dX6_fit_43 rfl (lv_at hl 0 rfl) ?_
          refine va_get (D := D) (ci := 6) (v := .int g_7) (C := RX6) (T := TX6) (N := 5) hx hb hts mcX6_fit_X6 hown hK.1 hP 0 rfl rfl 0 (by decide) (hts _ mwX6_fit_1) (fun _ h9 => h9) rfl dX6_fit_44 ?_
          refine lv_bipush (v := (10 : Int32)) hx hb dX6_fit_47 (by decide) ?_
          refine lv_iload_n hx hb dX6_fit_49 rfl (lv_at hl 2 rfl) ?_
          refine lv_imul hx hb dX6_fit_50 ?_
          refine lv_iload_n hx hb dX6_fit_51 rfl (lv_at hl 3 rfl) ?_
          refine lv_iadd hx hb dX6_fit_52 ?_
          refine lv_topi (fun x_13 ex_13 => ?_)
          replace vc := vc x_13 ex_13
          have hi_14 := vc.1
          replace vc := vc.2
          refine va_iast hx hb hK.1 hP hD hS 1 0 rfl rfl hi_14 dX6_fit_53 (fun H locs hP hD hS => ?_)
          have hP : va_P D vwCl [(h_this, .inr (6, [.int g_7, .int v_bestSunday, .int v_mostLeft, .ref h_this_fitting, .ref h_this_feltSo])), (h_this_fitting, .inl (cI, 90, .inl (upd f_8 (g_7).toNatClampNeg x_13))), (h_a0, .inr (4, [.int v_a0_count, .ref h_a0_sundays, .ref h_a0_felt])), (h_a0_felt, .inl (cI, 8, .inl v_a0_felt)), (h_a0_sundays, .inl (cI, 8, .inl v_a0_sundays))] H := hP
          have hD : va_D A [(h_this, .inr (6, [.int g_7, .int v_bestSunday, .int v_mostLeft, .ref h_this_fitting, .ref h_this_feltSo])), (h_this_fitting, .inl (cI, 90, .inl (upd f_8 (g_7).toNatClampNeg x_13))), (h_a0, .inr (4, [.int v_a0_count, .ref h_a0_sundays, .ref h_a0_felt])), (h_a0_felt, .inl (cI, 8, .inl v_a0_felt)), (h_a0_sundays, .inl (cI, 8, .inl v_a0_sundays))] := hD
          refine lv_aload_n hx hb dX6_fit_54 rfl (lv_at hl 0 rfl) ?_
          refine lv_dup hx hb dX6_fit_55 rfl ?_
          refine va_get (D := D) (ci := 6) (v := .int g_7) (C := RX6) (T := TX6) (N := 5) hx hb hts mcX6_fit_X6 hown hK.1 hP 0 rfl rfl 0 (by decide) (hts _ mwX6_fit_1) (fun _ h9 => h9) rfl dX6_fit_56 ?_
          refine lv_iconst (v := (1 : Int32)) hx hb dX6_fit_59 (by decide) ?_
          refine lv_iadd hx hb dX6_fit_60 ?_
          refine lv_topi (fun x_15 ex_15 => ?_)
          replace vc := vc x_15 ex_15
          refine va_put (D := D) (ci := 6) (v := .int x_15) (ty := .int) (C := RX6) (T := TX6) (N := 5) hx hb hts mcX6_fit_X6 tyX6 tyX6_ok nmX6 hown hK.1 hP hD hS 0 rfl rfl 0 (by decide) (hts _ mwX6_fit_1) (fun _ h9 => h9) rfl (by decide +kernel) rfl rfl (Nat.le_of_ble_eq_true rfl) dX6_fit_61 (fun H locs hP hD hS => ?_)
          have hP : va_P D vwCl [(h_this, .inr (6, [.int x_15, .int v_bestSunday, .int v_mostLeft, .ref h_this_fitting, .ref h_this_feltSo])), (h_this_fitting, .inl (cI, 90, .inl (upd f_8 (g_7).toNatClampNeg x_13))), (h_a0, .inr (4, [.int v_a0_count, .ref h_a0_sundays, .ref h_a0_felt])), (h_a0_felt, .inl (cI, 8, .inl v_a0_felt)), (h_a0_sundays, .inl (cI, 8, .inl v_a0_sundays))] H := hP
          have hD : va_D A [(h_this, .inr (6, [.int x_15, .int v_bestSunday, .int v_mostLeft, .ref h_this_fitting, .ref h_this_feltSo])), (h_this_fitting, .inl (cI, 90, .inl (upd f_8 (g_7).toNatClampNeg x_13))), (h_a0, .inr (4, [.int v_a0_count, .ref h_a0_sundays, .ref h_a0_felt])), (h_a0_felt, .inl (cI, 8, .inl v_a0_felt)), (h_a0_sundays, .inl (cI, 8, .inl v_a0_sundays))] := hD
          obtain ⟨x_16, ex_16⟩ : ∃ y_ : Int32, y_ = (i_6 + (1 : Int32)) := ⟨_, rfl⟩
          replace vc := vc x_16 ex_16
          refine lv_iinc (v := x_16) (lv' := [(3, .int x_16), (0, .ref h_this), (1, .ref h_a0), (2, .int i_2)]) hx hb dX6_fit_64 hl (k := 3) rfl (by rw [ex_16]; rfl) (by decide) rfl (fun ls hl => ?_)
          refine lv_goto (tgt := 15) hx hb dX6_fit_67 (by decide) ?_
          obtain ⟨n1_, hlt_, hi_⟩ := vc
          exact ih_5 n1_ (x_16, x_15, (upd f_8 (g_7).toNatClampNeg x_13)) hlt_ hi_ _ _ hP hD hS ls (lv_sub hl [1, 2, 3, 0] rfl)

theorem mwX6_fitAt_1 : Cond.fieldLink RX6 24 "HassockSee$Wear" "count" "I" ∈ wsX6_fitAt := List.mem_of_getElem? (i := 1) rfl
theorem mwX6_fitAt_2 : Cond.fieldLink RX6 9 "HassockSee$Wear" "fitting" "[I" ∈ wsX6_fitAt := List.mem_of_getElem? (i := 2) rfl
theorem mcX6_fitAt_X6 : ∀ w ∈ u_ws RX6 TX6 5, w ∈ wsX6_fitAt := fun _ h => (List.mem_cons_of_mem _ (List.mem_append_right _ h))
def KX6_fitAt (l : Launch) (D : va_G) (cI cZ : ClassId) (P : Int32 → Int32 → (Nat → Int32) → Prop) (Q : Int32 → Int32 → (Nat → Int32) → Int32 → Prop) : Prop := ∀ (sz : Nat) (h_this h_this_fitting h_this_feltSo : Nat) (p0 : Int32) (v_count : Int32) (v_bestSunday : Int32) (v_mostLeft : Int32) (v_fitting : (Nat → Int32)), P p0 v_count v_fitting → MI l yX6_fitAt wsX6_fitAt ({ frames := 0, cells := 0, slots := 0, locals := 0 }) [.ref h_this, .int p0] D cI cZ sz [(h_this, .inr (6, [.int v_count, .int v_bestSunday, .int v_mostLeft, .ref h_this_fitting, .ref h_this_feltSo])), (h_this_fitting, .inl (cI, 90, .inl v_fitting))] (fun r (u : Unit) => Q p0 v_count v_fitting r ) (fun u => [(h_this, .inr (6, [.int v_count, .int v_bestSunday, .int v_mostLeft, .ref h_this_fitting, .ref h_this_feltSo])), (h_this_fitting, .inl (cI, 90, .inl v_fitting))]) 0 0
set_option maxHeartbeats 4000000 in
set_option maxRecDepth 100000 in
theorem walkX6_fitAt {l : Launch} {D : va_G} {cI cZ : ClassId} {PX6_fitAt : Int32 → Int32 → (Nat → Int32) → Prop} {QX6_fitAt : Int32 → Int32 → (Nat → Int32) → Int32 → Prop}  (hvc : ∀ (p0 : Int32) (v_count : Int32) (v_fitting : (Nat → Int32)), PX6_fitAt p0 v_count v_fitting → ((p0 < 0 → (QX6_fitAt p0 v_count v_fitting (-6 : Int32) )) ∧ (¬ p0 < 0 → ((v_count ≤ p0 → (QX6_fitAt p0 v_count v_fitting (-6 : Int32) )) ∧ (¬ v_count ≤ p0 → (((90 : Int32) ≤ p0 → (QX6_fitAt p0 v_count v_fitting (-6 : Int32) )) ∧ (¬ (90 : Int32) ≤ p0 → (vp_in p0 90 ∧ (QX6_fitAt p0 v_count v_fitting (v_fitting (p0).toNatClampNeg) ))))))))) : KX6_fitAt l D cI cZ PX6_fitAt QX6_fitAt := by
  intro sz h_this h_this_fitting h_this_feltSo p0 v_count v_bestSunday v_mostLeft v_fitting hpre
  have vc := hvc p0 v_count v_fitting hpre
  clear hvc
  refine Met.ofW (cc := cX6_fitAt) (maxL := 2) (ret := (some .int)) (by decide) rfl ?_
  intro p e s m args below meth c s₁ B hml hv
  obtain ⟨rfl, hsz, hP, hK, hD0⟩ := hv
  have hx := B.exec
  have hb := B.bytes
  have hr := B.returns
  have hts := atoms_spec (ws := wsX6_fitAt) B.pre
  have hown : s.vm.findClass RX6 = some m.cls := findClass_of_methodNamed B.named
  have hlocks := B.notSynchronized
  subst hsz
  have hD := hD0.self (sz := s.heap.size)
  generalize hAe : va_A [(h_this, .inr (6, [.int v_count, .int v_bestSunday, .int v_mostLeft, .ref h_this_fitting, .ref h_this_feltSo])), (h_this_fitting, .inl (cI, 90, .inl v_fitting))] s.heap.size = A at hD ⊢
  have hA : ∀ q : Nat, s.heap.size ≤ q → A q := fun q h => by rw [← hAe]; exact Or.inr h
  have hS : va_S A s.heap s.heap [] := va_S.rf
  have hP : va_P D vwCl [(h_this, .inr (6, [.int v_count, .int v_bestSunday, .int v_mostLeft, .ref h_this_fitting, .ref h_this_feltSo])), (h_this_fitting, .inl (cI, 90, .inl v_fitting))] s.heap := hP
  have hl := lv_entry ([.ref h_this, .int p0]) (n := 2) (Nat.le_of_ble_eq_true rfl)
  rw [lg_entry_eq]
  generalize (lg_sl ([.ref h_this, .int p0]) ++ List.replicate (2 - (lg_sl ([.ref h_this, .int p0])).length) Slot.unset).toArray = ls at hl ⊢
  have hl : lv_has ls 2 [(0, .ref h_this), (1, .int p0)] := hl
  refine lv_iload_n hx hb dX6_fitAt_0 rfl (lv_at hl 1 rfl) ?_
  refine lv_if_lt (tgt := 27) hx hb dX6_fitAt_1 (by decide) (fun c_ => ?_) (fun c_ => ?_)
  · replace vc := vc.1 c_
    refine lv_bipush (v := (-6 : Int32)) hx hb dX6_fitAt_27 (by decide) ?_
    exact W.iret (v := (-6 : Int32)) hx hb hr (fun t ht hW => ⟨⟨(-6 : Int32), (), rfl, vc, QB_mk (hP.sub [0, 1] rfl) (hD.sub [0, 1] rfl rfl) ht⟩, hS.F ht⟩) hS.2.2 dX6_fitAt_29
  · replace vc := vc.2 c_
    refine lv_iload_n hx hb dX6_fitAt_4 rfl (lv_at hl 1 rfl) ?_
    refine lv_aload_n hx hb dX6_fitAt_5 rfl (lv_at hl 0 rfl) ?_
    refine va_get (D := D) (ci := 6) (v := .int v_count) (C := RX6) (T := TX6) (N := 5) hx hb hts mcX6_fitAt_X6 hown hK.1 hP 0 rfl rfl 0 (by decide) (hts _ mwX6_fitAt_1) (fun _ h9 => h9) rfl dX6_fitAt_6 ?_
    refine lv_icmp_ge (tgt := 27) hx hb dX6_fitAt_9 (by decide) (fun c_ => ?_) (fun c_ => ?_)
    · replace vc := vc.1 c_
      refine lv_bipush (v := (-6 : Int32)) hx hb dX6_fitAt_27 (by decide) ?_
      exact W.iret (v := (-6 : Int32)) hx hb hr (fun t ht hW => ⟨⟨(-6 : Int32), (), rfl, vc, QB_mk (hP.sub [0, 1] rfl) (hD.sub [0, 1] rfl rfl) ht⟩, hS.F ht⟩) hS.2.2 dX6_fitAt_29
    · replace vc := vc.2 c_
      refine lv_iload_n hx hb dX6_fitAt_12 rfl (lv_at hl 1 rfl) ?_
      refine lv_bipush (v := (90 : Int32)) hx hb dX6_fitAt_13 (by decide) ?_
      refine lv_icmp_ge (tgt := 27) hx hb dX6_fitAt_15 (by decide) (fun c_ => ?_) (fun c_ => ?_)
      · replace vc := vc.1 c_
        refine lv_bipush (v := (-6 : Int32)) hx hb dX6_fitAt_27 (by decide) ?_
        exact W.iret (v := (-6 : Int32)) hx hb hr (fun t ht hW => ⟨⟨(-6 : Int32), (), rfl, vc, QB_mk (hP.sub [0, 1] rfl) (hD.sub [0, 1] rfl rfl) ht⟩, hS.F ht⟩) hS.2.2 dX6_fitAt_29
      · replace vc := vc.2 c_
        refine lv_aload_n hx hb dX6_fitAt_18 rfl (lv_at hl 0 rfl) ?_
        refine va_get (D := D) (ci := 6) (v := .ref h_this_fitting) (C := RX6) (T := TX6) (N := 5) hx hb hts mcX6_fitAt_X6 hown hK.1 hP 0 rfl rfl 3 (by decide) (hts _ mwX6_fitAt_2) (fun _ h9 => h9) rfl dX6_fitAt_19 ?_
        refine lv_iload_n hx hb dX6_fitAt_22 rfl (lv_at hl 1 rfl) ?_
        have hi_1 := vc.1
        replace vc := vc.2
        refine va_iald hx hb hK.1 hP 1 0 rfl rfl hi_1 dX6_fitAt_23 ?_
        refine lv_goto (tgt := 29) hx hb dX6_fitAt_24 (by decide) ?_
        exact W.iret (v := (v_fitting (p0).toNatClampNeg)) hx hb hr (fun t ht hW => ⟨⟨(v_fitting (p0).toNatClampNeg), (), rfl, vc, QB_mk (hP.sub [0, 1] rfl) (hD.sub [0, 1] rfl rfl) ht⟩, hS.F ht⟩) hS.2.2 dX6_fitAt_29

theorem mwX6_mostLeftBy_1 : Cond.fieldLink RX6 15 "HassockSee$Wear" "feltSo" "[I" ∈ wsX6_mostLeftBy := List.mem_of_getElem? (i := 1) rfl
theorem mwX6_mostLeftBy_2 : Cond.fieldLink RX6 24 "HassockSee$Wear" "count" "I" ∈ wsX6_mostLeftBy := List.mem_of_getElem? (i := 2) rfl
theorem mwX6_mostLeftBy_3 : Cond.fieldLink RX6 9 "HassockSee$Wear" "fitting" "[I" ∈ wsX6_mostLeftBy := List.mem_of_getElem? (i := 3) rfl
theorem mwX6_mostLeftBy_4 : Cond.methodLink RX6 18 Lib.Math.max.name ∈ wsX6_mostLeftBy := List.mem_of_getElem? (i := 4) rfl
theorem mwX6_mostLeftBy_5 : Cond.static Lib.Math.max.name ∈ wsX6_mostLeftBy := List.mem_of_getElem? (i := 5) rfl
theorem mwX6_mostLeftBy_6 : Cond.initialized "java/lang/Math" ∈ wsX6_mostLeftBy := List.mem_of_getElem? (i := 6) rfl
theorem mwX6_mostLeftBy_7 : Cond.code Lib.Math.max.name Lib.Math.max.code 2 (some .int) ∈ wsX6_mostLeftBy := List.mem_of_getElem? (i := 7) rfl
theorem mcX6_mostLeftBy_X6 : ∀ w ∈ u_ws RX6 TX6 5, w ∈ wsX6_mostLeftBy := fun _ h => (List.mem_cons_of_mem _ (List.mem_append_right _ h))
def KX6_mostLeftBy (l : Launch) (D : va_G) (cI cZ : ClassId) (P : Int32 → Int32 → (Nat → Int32) → (Nat → Int32) → Prop) (Q : Int32 → Int32 → (Nat → Int32) → (Nat → Int32) → Int32 → (Nat → Int32) → Prop) : Prop := ∀ (sz : Nat) (h_this h_this_fitting h_this_feltSo : Nat) (p0 : Int32) (v_count : Int32) (v_bestSunday : Int32) (v_mostLeft : Int32) (v_feltSo : (Nat → Int32)) (v_fitting : (Nat → Int32)), P p0 v_count v_feltSo v_fitting → MI l yX6_mostLeftBy wsX6_mostLeftBy ({ frames := 2, cells := 0, slots := 0, locals := 62 }) [.ref h_this, .int p0] D cI cZ sz [(h_this, .inr (6, [.int v_count, .int v_bestSunday, .int v_mostLeft, .ref h_this_fitting, .ref h_this_feltSo])), (h_this_feltSo, .inl (cI, 100, .inl v_feltSo)), (h_this_fitting, .inl (cI, 90, .inl v_fitting))] (fun r (u : (Nat → Int32)) => Q p0 v_count v_feltSo v_fitting r u) (fun u => [(h_this, .inr (6, [.int v_count, .int v_bestSunday, .int v_mostLeft, .ref h_this_fitting, .ref h_this_feltSo])), (h_this_feltSo, .inl (cI, 100, .inl u)), (h_this_fitting, .inl (cI, 90, .inl v_fitting))]) 0 0
set_option maxHeartbeats 4000000 in
set_option maxRecDepth 100000 in
theorem walkX6_mostLeftBy {l : Launch} {D : va_G} {cI cZ : ClassId} {PX6_mostLeftBy : Int32 → Int32 → (Nat → Int32) → (Nat → Int32) → Prop} {QX6_mostLeftBy : Int32 → Int32 → (Nat → Int32) → (Nat → Int32) → Int32 → (Nat → Int32) → Prop} {PX6_woolBehind : Int32 → Int32 → Int32 → Prop} {QX6_woolBehind : Int32 → Int32 → Int32 → Int32 → Prop} (kX6_woolBehind : KX6_woolBehind l D cI cZ PX6_woolBehind QX6_woolBehind) (IX6_mostLeftBy_2 : Int32 → Int32 → (Nat → Int32) → (Nat → Int32) → Nat → Int32 → Int32 → (Nat → Int32) → Prop) (IX6_mostLeftBy_25 : Int32 → Int32 → (Nat → Int32) → (Nat → Int32) → Nat → Int32 → Int32 → Int32 → (Nat → Int32) → Prop) (hvc : ∀ (p0 : Int32) (v_count : Int32) (v_feltSo : (Nat → Int32)) (v_fitting : (Nat → Int32)), PX6_mostLeftBy p0 v_count v_feltSo v_fitting → ((∃ n0 : Nat, IX6_mostLeftBy_2 p0 v_count v_feltSo v_fitting n0 p0 (0 : Int32) v_feltSo) ∧ (∀ (n_1 : Nat) (i_2 : Int32) (f_3 : (Nat → Int32)), (IX6_mostLeftBy_2 p0 v_count v_feltSo v_fitting n_1 p0 i_2 f_3 → (((100 : Int32) ≤ i_2 → ((∃ n0 : Nat, IX6_mostLeftBy_25 p0 v_count v_feltSo v_fitting n0 p0 (0 : Int32) (0 : Int32) f_3) ∧ (∀ (n_4 : Nat) (i_5 : Int32) (i_6 : Int32) (f_7 : (Nat → Int32)), (IX6_mostLeftBy_25 p0 v_count v_feltSo v_fitting n_4 p0 i_6 i_5 f_7 → ((v_count ≤ i_5 → (QX6_mostLeftBy p0 v_count v_feltSo v_fitting i_6 f_7)) ∧ (¬ v_count ≤ i_5 → (((90 : Int32) ≤ i_5 → (QX6_mostLeftBy p0 v_count v_feltSo v_fitting i_6 f_7)) ∧ (¬ (90 : Int32) ≤ i_5 → (vp_in i_5 90 ∧ (vp_in i_5 90 ∧ (PX6_woolBehind p0 ((v_fitting (i_5).toNatClampNeg) / (10 : Int32)) ((v_fitting (i_5).toNatClampNeg) - (v_fitting (i_5).toNatClampNeg) / (10 : Int32) * (10 : Int32)) ∧ (∀ r_10 : Int32, QX6_woolBehind p0 ((v_fitting (i_5).toNatClampNeg) / (10 : Int32)) ((v_fitting (i_5).toNatClampNeg) - (v_fitting (i_5).toNatClampNeg) / (10 : Int32) * (10 : Int32)) r_10 → (((100 : Int32) ≤ r_10 → (∀ x_11 : Int32, x_11 = (i_5 + (1 : Int32)) → (∃ n1 : Nat, n1 < n_4 ∧ IX6_mostLeftBy_25 p0 v_count v_feltSo v_fitting n1 p0 i_6 x_11 f_7))) ∧ (¬ (100 : Int32) ≤ r_10 → (vp_in r_10 100 ∧ (∀ x_13 : Int32, x_13 = ((f_7 (r_10).toNatClampNeg) + (1 : Int32)) → (vp_in r_10 100 ∧ (vp_in r_10 100 ∧ (∀ x_16 : Int32, x_16 = (if i_6 < ((upd f_7 (r_10).toNatClampNeg x_13) (r_10).toNatClampNeg) then ((upd f_7 (r_10).toNatClampNeg x_13) (r_10).toNatClampNeg) else i_6) → (∀ x_17 : Int32, x_17 = (i_5 + (1 : Int32)) → (∃ n1 : Nat, n1 < n_4 ∧ IX6_mostLeftBy_25 p0 v_count v_feltSo v_fitting n1 p0 x_16 x_17 (upd f_7 (r_10).toNatClampNeg x_13)))))))))))))))))))))) ∧ (¬ (100 : Int32) ≤ i_2 → (vp_in i_2 100 ∧ (∀ x_19 : Int32, x_19 = (i_2 + (1 : Int32)) → (∃ n1 : Nat, n1 < n_1 ∧ IX6_mostLeftBy_2 p0 v_count v_feltSo v_fitting n1 p0 x_19 (upd f_3 (i_2).toNatClampNeg (0 : Int32))))))))))) : KX6_mostLeftBy l D cI cZ PX6_mostLeftBy QX6_mostLeftBy := by
  intro sz h_this h_this_fitting h_this_feltSo p0 v_count v_bestSunday v_mostLeft v_feltSo v_fitting hpre
  have vc := hvc p0 v_count v_feltSo v_fitting hpre
  clear hvc
  refine Met.ofW (cc := cX6_mostLeftBy) (maxL := 5) (ret := (some .int)) (by decide) rfl ?_
  intro p e s m args below meth c s₁ B hml hv
  obtain ⟨rfl, hsz, hP, hK, hD0⟩ := hv
  have hx := B.exec
  have hb := B.bytes
  have hr := B.returns
  have hts := atoms_spec (ws := wsX6_mostLeftBy) B.pre
  have hown : s.vm.findClass RX6 = some m.cls := findClass_of_methodNamed B.named
  have hlocks := B.notSynchronized
  subst hsz
  have hD := hD0.self (sz := s.heap.size)
  generalize hAe : va_A [(h_this, .inr (6, [.int v_count, .int v_bestSunday, .int v_mostLeft, .ref h_this_fitting, .ref h_this_feltSo])), (h_this_feltSo, .inl (cI, 100, .inl v_feltSo)), (h_this_fitting, .inl (cI, 90, .inl v_fitting))] s.heap.size = A at hD ⊢
  have hA : ∀ q : Nat, s.heap.size ≤ q → A q := fun q h => by rw [← hAe]; exact Or.inr h
  have hS : va_S A s.heap s.heap [] := va_S.rf
  have hP : va_P D vwCl [(h_this, .inr (6, [.int v_count, .int v_bestSunday, .int v_mostLeft, .ref h_this_fitting, .ref h_this_feltSo])), (h_this_feltSo, .inl (cI, 100, .inl v_feltSo)), (h_this_fitting, .inl (cI, 90, .inl v_fitting))] s.heap := hP
  have hl := lv_entry ([.ref h_this, .int p0]) (n := 5) (Nat.le_of_ble_eq_true rfl)
  rw [lg_entry_eq]
  generalize (lg_sl ([.ref h_this, .int p0]) ++ List.replicate (5 - (lg_sl ([.ref h_this, .int p0])).length) Slot.unset).toArray = ls at hl ⊢
  have hl : lv_has ls 5 [(0, .ref h_this), (1, .int p0)] := hl
  refine lv_iconst (v := (0 : Int32)) hx hb dX6_mostLeftBy_0 (by decide) ?_
  refine lv_istore_n (lv' := [(2, .int (0 : Int32)), (0, .ref h_this), (1, .int p0)]) hx hb dX6_mostLeftBy_1 rfl hl (by decide) rfl (fun ls hl => ?_)
  obtain ⟨⟨n0_1, hi0_1⟩, vc⟩ := vc
  refine kloop (V := Int32 × (Nat → Int32)) (I := fun n v => IX6_mostLeftBy_2 p0 v_count v_feltSo v_fitting n p0 (v.1) (v.2)) (wv := fun v => [(h_this, .inr (6, [.int v_count, .int v_bestSunday, .int v_mostLeft, .ref h_this_fitting, .ref h_this_feltSo])), (h_this_feltSo, .inl (cI, 100, .inl (v.2))), (h_this_fitting, .inl (cI, 90, .inl v_fitting))]) (lv := fun v => [(0, .ref h_this), (1, .int p0), (2, .int (v.1))]) n0_1 ((0 : Int32), v_feltSo) hi0_1 hP hD hS (lv_sub hl [1, 2, 0] rfl) ?_
  intro n_1 v_1 hi_1 ih_1 H locs hP hD hS ls hl
  obtain ⟨i_2, f_3⟩ := v_1
  replace vc := vc n_1 i_2 f_3 hi_1
  have hP : va_P D vwCl [(h_this, .inr (6, [.int v_count, .int v_bestSunday, .int v_mostLeft, .ref h_this_fitting, .ref h_this_feltSo])), (h_this_feltSo, .inl (cI, 100, .inl f_3)), (h_this_fitting, .inl (cI, 90, .inl v_fitting))] H := hP
  have hD : va_D A [(h_this, .inr (6, [.int v_count, .int v_bestSunday, .int v_mostLeft, .ref h_this_fitting, .ref h_this_feltSo])), (h_this_feltSo, .inl (cI, 100, .inl f_3)), (h_this_fitting, .inl (cI, 90, .inl v_fitting))] := hD
  have hl : lv_has ls 5 [(0, .ref h_this), (1, .int p0), (2, .int i_2)] := hl
  refine lv_iload_n hx hb dX6_mostLeftBy_2 rfl (lv_at hl 2 rfl) ?_
  refine lv_bipush (v := (100 : Int32)) hx hb dX6_mostLeftBy_3 (by decide) ?_
  refine lv_icmp_ge (tgt := 21) hx hb dX6_mostLeftBy_5 (by decide) (fun c_ => ?_) (fun c_ => ?_)
  · replace vc := vc.1 c_
    refine lv_iconst (v := (0 : Int32)) hx hb dX6_mostLeftBy_21 (by decide) ?_
    refine lv_istore_n (lv' := [(2, .int (0 : Int32)), (0, .ref h_this), (1, .int p0)]) hx hb dX6_mostLeftBy_22 rfl hl (by decide) rfl (fun ls hl => ?_)
    refine lv_iconst (v := (0 : Int32)) hx hb dX6_mostLeftBy_23 (by decide) ?_
    refine lv_istore_n (lv' := [(3, .int (0 : Int32)), (2, .int (0 : Int32)), (0, .ref h_this), (1, .int p0)]) hx hb dX6_mostLeftBy_24 rfl hl (by decide) rfl (fun ls hl => ?_)
    obtain ⟨⟨n0_4, hi0_4⟩, vc⟩ := vc
    refine kloop (V := Int32 × Int32 × (Nat → Int32)) (I := fun n v => IX6_mostLeftBy_25 p0 v_count v_feltSo v_fitting n p0 (v.2.1) (v.1) (v.2.2)) (wv := fun v => [(h_this, .inr (6, [.int v_count, .int v_bestSunday, .int v_mostLeft, .ref h_this_fitting, .ref h_this_feltSo])), (h_this_feltSo, .inl (cI, 100, .inl (v.2.2))), (h_this_fitting, .inl (cI, 90, .inl v_fitting))]) (lv := fun v => [(0, .ref h_this), (1, .int p0), (2, .int (v.2.1)), (3, .int (v.1))]) n0_4 ((0 : Int32), (0 : Int32), f_3) hi0_4 hP hD hS (lv_sub hl [2, 3, 1, 0] rfl) ?_
    intro n_4 v_4 hi_4 ih_4 H locs hP hD hS ls hl
    obtain ⟨i_5, i_6, f_7⟩ := v_4
    replace vc := vc n_4 i_5 i_6 f_7 hi_4
    have hP : va_P D vwCl [(h_this, .inr (6, [.int v_count, .int v_bestSunday, .int v_mostLeft, .ref h_this_fitting, .ref h_this_feltSo])), (h_this_feltSo, .inl (cI, 100, .inl f_7)), (h_this_fitting, .inl (cI, 90, .inl v_fitting))] H := hP
    have hD : va_D A [(h_this, .inr (6, [.int v_count, .int v_bestSunday, .int v_mostLeft, .ref h_this_fitting, .ref h_this_feltSo])), (h_this_feltSo, .inl (cI, 100, .inl f_7)), (h_this_fitting, .inl (cI, 90, .inl v_fitting))] := hD
    have hl : lv_has ls 5 [(0, .ref h_this), (1, .int p0), (2, .int i_6), (3, .int i_5)] := hl
    refine lv_iload_n hx hb dX6_mostLeftBy_25 rfl (lv_at hl 3 rfl) ?_
    refine lv_aload_n hx hb dX6_mostLeftBy_26 rfl (lv_at hl 0 rfl) ?_
    refine va_get (D := D) (ci := 6) (v := .int v_count) (C := RX6) (T := TX6) (N := 5) hx hb hts mcX6_mostLeftBy_X6 hown hK.1 hP 0 rfl rfl 0 (by decide) (hts _ mwX6_mostLeftBy_2) (fun _ h9 => h9) rfl dX6_mostLeftBy_27 ?_
    refine lv_icmp_ge (tgt := 99) hx hb dX6_mostLeftBy_30 (by decide) (fun c_ => ?_) (fun c_ => ?_)
    · replace vc := vc.1 c_
      refine lv_iload_n hx hb dX6_mostLeftBy_99 rfl (lv_at hl 2 rfl) ?_
      exact W.iret (v := i_6) hx hb hr (fun t ht hW => ⟨⟨i_6, (f_7), rfl, vc, QB_mk (hP.sub [0, 1, 2] rfl) (hD.sub [0, 1, 2] rfl rfl) ht⟩, hS.F ht⟩) hS.2.2 dX6_mostLeftBy_100
    · replace vc := vc.2 c_
      refine lv_iload_n hx hb dX6_mostLeftBy_33 rfl (lv_at hl 3 rfl) ?_
      refine lv_bipush (v := (90 : Int32)) hx hb dX6_mostLeftBy_34 (by decide) ?_
      refine lv_icmp_ge (tgt := 99) hx hb dX6_mostLeftBy_36 (by decide) (fun c_ => ?_) (fun c_ => ?_)
      · replace vc := vc.1 c_
        refine lv_iload_n hx hb dX6_mostLeftBy_99 rfl (lv_at hl 2 rfl) ?_
        exact W.iret (v := i_6) hx hb hr (fun t ht hW => ⟨⟨i_6, (f_7), rfl, vc, QB_mk (hP.sub [0, 1, 2] rfl) (hD.sub [0, 1, 2] rfl rfl) ht⟩, hS.F ht⟩) hS.2.2 dX6_mostLeftBy_100
      · replace vc := vc.2 c_
        refine lv_iload_n hx hb dX6_mostLeftBy_39 rfl (lv_at hl 1 rfl) ?_
        refine lv_aload_n hx hb dX6_mostLeftBy_40 rfl (lv_at hl 0 rfl) ?_
        refine va_get (D := D) (ci := 6) (v := .ref h_this_fitting) (C := RX6) (T := TX6) (N := 5) hx hb hts mcX6_mostLeftBy_X6 hown hK.1 hP 0 rfl rfl 3 (by decide) (hts _ mwX6_mostLeftBy_3) (fun _ h9 => h9) rfl dX6_mostLeftBy_41 ?_
        refine lv_iload_n hx hb dX6_mostLeftBy_44 rfl (lv_at hl 3 rfl) ?_
        have hi_8 := vc.1
        replace vc := vc.2
        refine va_iald hx hb hK.1 hP 2 0 rfl rfl hi_8 dX6_mostLeftBy_45 ?_
        refine lv_bipush (v := (10 : Int32)) hx hb dX6_mostLeftBy_46 (by decide) ?_
        refine lv_idiv hx hb dX6_mostLeftBy_48 (by decide) ?_
        refine lv_aload_n hx hb dX6_mostLeftBy_49 rfl (lv_at hl 0 rfl) ?_
        refine va_get (D := D) (ci := 6) (v := .ref h_this_fitting) (C := RX6) (T := TX6) (N := 5) hx hb hts mcX6_mostLeftBy_X6 hown hK.1 hP 0 rfl rfl 3 (by decide) (hts _ mwX6_mostLeftBy_3) (fun _ h9 => h9) rfl dX6_mostLeftBy_50 ?_
        refine lv_iload_n hx hb dX6_mostLeftBy_53 rfl (lv_at hl 3 rfl) ?_
        have hi_9 := vc.1
        replace vc := vc.2
        refine va_iald hx hb hK.1 hP 2 0 rfl rfl hi_9 dX6_mostLeftBy_54 ?_
        refine lv_bipush (v := (10 : Int32)) hx hb dX6_mostLeftBy_55 (by decide) ?_
        refine lv_irem hx hb dX6_mostLeftBy_57 (by decide) ?_
        refine kj0_i (rest := []) (kS ⟨hx, hb, hml, hown, hts⟩ (kX6_woolBehind _ p0 ((v_fitting (i_5).toNatClampNeg) / (10 : Int32)) ((v_fitting (i_5).toNatClampNeg) - (v_fitting (i_5).toNatClampNeg) / (10 : Int32) * (10 : Int32)) vc.1) (va_cwS 3 hts gX6_mostLeftBy_X6_woolBehind rfl rfl rfl (by decide +kernel) ⟨(Nat.le_of_ble_eq_true rfl), (Nat.le_of_ble_eq_true rfl)⟩) hK rfl rfl hl.1 (Nat.le_of_ble_eq_true rfl) dX6_mostLeftBy_58 ⟨(Nat.le_of_ble_eq_true rfl), (Nat.le_of_ble_eq_true rfl)⟩) hP hS hA (fun r_10 H locs hq_ hP hS => ?_)
        replace vc := vc.2 r_10 hq_
        have hP : va_P D vwCl [(h_this, .inr (6, [.int v_count, .int v_bestSunday, .int v_mostLeft, .ref h_this_fitting, .ref h_this_feltSo])), (h_this_feltSo, .inl (cI, 100, .inl f_7)), (h_this_fitting, .inl (cI, 90, .inl v_fitting))] H := hP
        refine lv_istore (lv' := [(4, .int r_10), (0, .ref h_this), (1, .int p0), (2, .int i_6), (3, .int i_5)]) hx hb dX6_mostLeftBy_61 hl (by decide) rfl (fun ls hl => ?_)
        refine lv_iload hx hb dX6_mostLeftBy_63 (lv_at hl 0 rfl) ?_
        refine lv_bipush (v := (100 : Int32)) hx hb dX6_mostLeftBy_65 (by decide) ?_
        refine lv_icmp_ge (tgt := 93) hx hb dX6_mostLeftBy_67 (by decide) (fun c_ => ?_) (fun c_ => ?_)
        · replace vc := vc.1 c_
          obtain ⟨x_11, ex_11⟩ : ∃ y_ : Int32, y_ = (i_5 + (1 : Int32)) := ⟨_, rfl⟩
          replace vc := vc x_11 ex_11
          refine lv_iinc (v := x_11) (lv' := [(3, .int x_11), (4, .int r_10), (0, .ref h_this), (1, .int p0), (2, .int i_6)]) hx hb dX6_mostLeftBy_93 hl (k := 4) rfl (by rw [ex_11]; rfl) (by decide) rfl (fun ls hl => ?_)
          refine lv_goto (tgt := 25) hx hb dX6_mostLeftBy_96 (by decide) ?_
          obtain ⟨n1_, hlt_, hi_⟩ := vc
          exact ih_4 n1_ (x_11, i_6, f_7) hlt_ hi_ _ _ hP hD hS ls (lv_sub hl [2, 3, 4, 0] rfl)
        · replace vc := vc.2 c_
          refine lv_aload_n hx hb dX6_mostLeftBy_70 rfl (lv_at hl 1 rfl) ?_
          refine va_get (D := D) (ci := 6) (v := .ref h_this_feltSo) (C := RX6) (T := TX6) (N := 5) hx hb hts mcX6_mostLeftBy_X6 hown hK.1 hP 0 rfl rfl 4 (by decide) (hts _ mwX6_mostLeftBy_1) (fun _ h9 => h9) rfl dX6_mostLeftBy_71 ?_
          refine lv_iload hx hb dX6_mostLeftBy_74 (lv_at hl 0 rfl) ?_
          refine lv_dup2_11 hx hb dX6_mostLeftBy_76 rfl rfl ?_
          have hi_12 := vc.1
          replace vc := vc.2
          refine va_iald hx hb hK.1 hP 1 0 rfl rfl hi_12 dX6_mostLeftBy_77 ?_
          refine lv_iconst (v := (1 : Int32)) hx hb dX6_mostLeftBy_78 (by decide) ?_
          refine lv_iadd hx hb dX6_mostLeftBy_79 ?_
          refine lv_topi (fun x_13 ex_13 => ?_)
          replace vc := vc x_13 ex_13
          have hi_14 := vc.1
          replace vc := vc.2
          refine va_iast hx hb hK.1 hP hD hS 1 0 rfl rfl hi_14 dX6_mostLeftBy_80 (fun H locs hP hD hS => ?_)
          have hP : va_P D vwCl [(h_this, .inr (6, [.int v_count, .int v_bestSunday, .int v_mostLeft, .ref h_this_fitting, .ref h_this_feltSo])), (h_this_feltSo, .inl (cI, 100, .inl (upd f_7 (r_10).toNatClampNeg x_13))), (h_this_fitting, .inl (cI, 90, .inl v_fitting))] H := hP
          have hD : va_D A [(h_this, .inr (6, [.int v_count, .int v_bestSunday, .int v_mostLeft, .ref h_this_fitting, .ref h_this_feltSo])), (h_this_feltSo, .inl (cI, 100, .inl (upd f_7 (r_10).toNatClampNeg x_13))), (h_this_fitting, .inl (cI, 90, .inl v_fitting))] := hD
          refine lv_iload_n hx hb dX6_mostLeftBy_81 rfl (lv_at hl 3 rfl) ?_
          refine lv_aload_n hx hb dX6_mostLeftBy_82 rfl (lv_at hl 1 rfl) ?_
          refine va_get (D := D) (ci := 6) (v := .ref h_this_feltSo) (C := RX6) (T := TX6) (N := 5) hx hb hts mcX6_mostLeftBy_X6 hown hK.1 hP 0 rfl rfl 4 (by decide) (hts _ mwX6_mostLeftBy_1) (fun _ h9 => h9) rfl dX6_mostLeftBy_83 ?_
          refine lv_iload hx hb dX6_mostLeftBy_86 (lv_at hl 0 rfl) ?_
          have hi_15 := vc.1
          replace vc := vc.2
          refine va_iald hx hb hK.1 hP 1 0 rfl rfl hi_15 dX6_mostLeftBy_88 ?_
          refine va_mmax hx hb (by rw [hml]; exact hl.1.symm) hown (hts _ mwX6_mostLeftBy_4) (hts _ mwX6_mostLeftBy_5) (hts _ mwX6_mostLeftBy_6) (hts _ mwX6_mostLeftBy_7) (Nat.le_of_ble_eq_true rfl) (Nat.le_of_ble_eq_true rfl) (Nat.le_of_ble_eq_true rfl) (Nat.le_of_ble_eq_true rfl) dX6_mostLeftBy_89 ?_
          refine lv_topi (fun x_16 ex_16 => ?_)
          replace vc := vc x_16 ex_16
          refine lv_istore_n (lv' := [(2, .int x_16), (4, .int r_10), (0, .ref h_this), (1, .int p0), (3, .int i_5)]) hx hb dX6_mostLeftBy_92 rfl hl (by decide) rfl (fun ls hl => ?_)
          obtain ⟨x_17, ex_17⟩ : ∃ y_ : Int32, y_ = (i_5 + (1 : Int32)) := ⟨_, rfl⟩
          replace vc := vc x_17 ex_17
          refine lv_iinc (v := x_17) (lv' := [(3, .int x_17), (2, .int x_16), (4, .int r_10), (0, .ref h_this), (1, .int p0)]) hx hb dX6_mostLeftBy_93 hl (k := 4) rfl (by rw [ex_17]; rfl) (by decide) rfl (fun ls hl => ?_)
          refine lv_goto (tgt := 25) hx hb dX6_mostLeftBy_96 (by decide) ?_
          obtain ⟨n1_, hlt_, hi_⟩ := vc
          exact ih_4 n1_ (x_17, x_16, (upd f_7 (r_10).toNatClampNeg x_13)) hlt_ hi_ _ _ hP hD hS ls (lv_sub hl [3, 4, 1, 0] rfl)
  · replace vc := vc.2 c_
    refine lv_aload_n hx hb dX6_mostLeftBy_8 rfl (lv_at hl 0 rfl) ?_
    refine va_get (D := D) (ci := 6) (v := .ref h_this_feltSo) (C := RX6) (T := TX6) (N := 5) hx hb hts mcX6_mostLeftBy_X6 hown hK.1 hP 0 rfl rfl 4 (by decide) (hts _ mwX6_mostLeftBy_1) (fun _ h9 => h9) rfl dX6_mostLeftBy_9 ?_
    refine lv_iload_n hx hb dX6_mostLeftBy_12 rfl (lv_at hl 2 rfl) ?_
    refine lv_iconst (v := (0 : Int32)) hx hb dX6_mostLeftBy_13 (by decide) ?_
    have hi_18 := vc.1
    replace vc := vc.2
    refine va_iast hx hb hK.1 hP hD hS 1 0 rfl rfl hi_18 dX6_mostLeftBy_14 (fun H locs hP hD hS => ?_)
    have hP : va_P D vwCl [(h_this, .inr (6, [.int v_count, .int v_bestSunday, .int v_mostLeft, .ref h_this_fitting, .ref h_this_feltSo])), (h_this_feltSo, .inl (cI, 100, .inl (upd f_3 (i_2).toNatClampNeg (0 : Int32)))), (h_this_fitting, .inl (cI, 90, .inl v_fitting))] H := hP
    have hD : va_D A [(h_this, .inr (6, [.int v_count, .int v_bestSunday, .int v_mostLeft, .ref h_this_fitting, .ref h_this_feltSo])), (h_this_feltSo, .inl (cI, 100, .inl (upd f_3 (i_2).toNatClampNeg (0 : Int32)))), (h_this_fitting, .inl (cI, 90, .inl v_fitting))] := hD
    obtain ⟨x_19, ex_19⟩ : ∃ y_ : Int32, y_ = (i_2 + (1 : Int32)) := ⟨_, rfl⟩
    replace vc := vc x_19 ex_19
    refine lv_iinc (v := x_19) (lv' := [(2, .int x_19), (0, .ref h_this), (1, .int p0)]) hx hb dX6_mostLeftBy_15 hl (k := 2) rfl (by rw [ex_19]; rfl) (by decide) rfl (fun ls hl => ?_)
    refine lv_goto (tgt := 2) hx hb dX6_mostLeftBy_18 (by decide) ?_
    obtain ⟨n1_, hlt_, hi_⟩ := vc
    exact ih_1 n1_ (x_19, (upd f_3 (i_2).toNatClampNeg (0 : Int32))) hlt_ hi_ _ _ hP hD hS ls (lv_sub hl [1, 2, 0] rfl)

theorem mwX6_chooseSunday_1 : Cond.fieldLink RX6 34 "HassockSee$Wear" "bestSunday" "I" ∈ wsX6_chooseSunday := List.mem_of_getElem? (i := 1) rfl
theorem mwX6_chooseSunday_2 : Cond.fieldLink RX6 37 "HassockSee$Wear" "mostLeft" "I" ∈ wsX6_chooseSunday := List.mem_of_getElem? (i := 2) rfl
theorem mwX6_chooseSunday_3 : Cond.fieldLink RX6 24 "HassockSee$Wear" "count" "I" ∈ wsX6_chooseSunday := List.mem_of_getElem? (i := 3) rfl
theorem mcX6_chooseSunday_X6 : ∀ w ∈ u_ws RX6 TX6 5, w ∈ wsX6_chooseSunday := fun _ h => (List.mem_cons_of_mem _ (List.mem_append_right _ h))
def KX6_chooseSunday (l : Launch) (D : va_G) (cI cZ : ClassId) (P : Int32 → Int32 → Int32 → (Nat → Int32) → (Nat → Int32) → Prop) (Q : Int32 → Int32 → Int32 → (Nat → Int32) → (Nat → Int32) → Int32 → Int32 → (Nat → Int32) → Prop) : Prop := ∀ (sz : Nat) (h_this h_this_fitting h_this_feltSo : Nat) (v_count : Int32) (v_bestSunday : Int32) (v_mostLeft : Int32) (v_feltSo : (Nat → Int32)) (v_fitting : (Nat → Int32)), P v_count v_bestSunday v_mostLeft v_feltSo v_fitting → MV l yX6_chooseSunday wsX6_chooseSunday ({ frames := 3, cells := 0, slots := 0, locals := 86 }) [.ref h_this] D cI cZ sz [(h_this, .inr (6, [.int v_count, .int v_bestSunday, .int v_mostLeft, .ref h_this_fitting, .ref h_this_feltSo])), (h_this_feltSo, .inl (cI, 100, .inl v_feltSo)), (h_this_fitting, .inl (cI, 90, .inl v_fitting))] (fun (u : Int32 × Int32 × (Nat → Int32)) => Q v_count v_bestSunday v_mostLeft v_feltSo v_fitting (u.1) (u.2.1) (u.2.2)) (fun u => [(h_this, .inr (6, [.int v_count, .int (u.1), .int (u.2.1), .ref h_this_fitting, .ref h_this_feltSo])), (h_this_feltSo, .inl (cI, 100, .inl (u.2.2))), (h_this_fitting, .inl (cI, 90, .inl v_fitting))]) 0 0
set_option maxHeartbeats 4000000 in
set_option maxRecDepth 100000 in
theorem walkX6_chooseSunday {l : Launch} {D : va_G} {cI cZ : ClassId} {PX6_chooseSunday : Int32 → Int32 → Int32 → (Nat → Int32) → (Nat → Int32) → Prop} {QX6_chooseSunday : Int32 → Int32 → Int32 → (Nat → Int32) → (Nat → Int32) → Int32 → Int32 → (Nat → Int32) → Prop} {PX6_mostLeftBy : Int32 → Int32 → (Nat → Int32) → (Nat → Int32) → Prop} {QX6_mostLeftBy : Int32 → Int32 → (Nat → Int32) → (Nat → Int32) → Int32 → (Nat → Int32) → Prop} (kX6_mostLeftBy : KX6_mostLeftBy l D cI cZ PX6_mostLeftBy QX6_mostLeftBy) (IX6_chooseSunday_14 : Int32 → Int32 → Int32 → (Nat → Int32) → (Nat → Int32) → Nat → Int32 → Int32 → Int32 → (Nat → Int32) → Prop) (hvc : ∀ (v_count : Int32) (v_bestSunday : Int32) (v_mostLeft : Int32) (v_feltSo : (Nat → Int32)) (v_fitting : (Nat → Int32)), PX6_chooseSunday v_count v_bestSunday v_mostLeft v_feltSo v_fitting → ((∃ n0 : Nat, IX6_chooseSunday_14 v_count v_bestSunday v_mostLeft v_feltSo v_fitting n0 (0 : Int32) (-6 : Int32) (-6 : Int32) v_feltSo) ∧ (∀ (n_1 : Nat) (i_2 : Int32) (g_3 : Int32) (g_4 : Int32) (f_5 : (Nat → Int32)), (IX6_chooseSunday_14 v_count v_bestSunday v_mostLeft v_feltSo v_fitting n_1 i_2 g_3 g_4 f_5 → (((60 : Int32) < i_2 → (QX6_chooseSunday v_count v_bestSunday v_mostLeft v_feltSo v_fitting g_3 g_4 f_5)) ∧ (¬ (60 : Int32) < i_2 → ((v_count ≤ 0 → (QX6_chooseSunday v_count v_bestSunday v_mostLeft v_feltSo v_fitting g_3 g_4 f_5)) ∧ (¬ v_count ≤ 0 → (PX6_mostLeftBy i_2 v_count f_5 v_fitting ∧ (∀ (r_7 : Int32) (f_6 : (Nat → Int32)), QX6_mostLeftBy i_2 v_count f_5 v_fitting r_7 f_6 → ((g_3 = (-6 : Int32) → (∀ x_8 : Int32, x_8 = (i_2 + (1 : Int32)) → (∃ n1 : Nat, n1 < n_1 ∧ IX6_chooseSunday_14 v_count v_bestSunday v_mostLeft v_feltSo v_fitting n1 x_8 i_2 r_7 f_6))) ∧ (¬ g_3 = (-6 : Int32) → ((g_4 ≤ r_7 → (∀ x_9 : Int32, x_9 = (i_2 + (1 : Int32)) → (∃ n1 : Nat, n1 < n_1 ∧ IX6_chooseSunday_14 v_count v_bestSunday v_mostLeft v_feltSo v_fitting n1 x_9 g_3 g_4 f_6))) ∧ (¬ g_4 ≤ r_7 → (∀ x_10 : Int32, x_10 = (i_2 + (1 : Int32)) → (∃ n1 : Nat, n1 < n_1 ∧ IX6_chooseSunday_14 v_count v_bestSunday v_mostLeft v_feltSo v_fitting n1 x_10 i_2 r_7 f_6)))))))))))))))) : KX6_chooseSunday l D cI cZ PX6_chooseSunday QX6_chooseSunday := by
  intro sz h_this h_this_fitting h_this_feltSo v_count v_bestSunday v_mostLeft v_feltSo v_fitting hpre
  have vc := hvc v_count v_bestSunday v_mostLeft v_feltSo v_fitting hpre
  clear hvc
  refine Met.ofW (cc := cX6_chooseSunday) (maxL := 3) (ret := none) (by decide) rfl ?_
  intro p e s m args below meth c s₁ B hml hv
  obtain ⟨rfl, hsz, hP, hK, hD0⟩ := hv
  have hx := B.exec
  have hb := B.bytes
  have hr := B.returns
  have hts := atoms_spec (ws := wsX6_chooseSunday) B.pre
  have hown : s.vm.findClass RX6 = some m.cls := findClass_of_methodNamed B.named
  have hlocks := B.notSynchronized
  subst hsz
  have hD := hD0.self (sz := s.heap.size)
  generalize hAe : va_A [(h_this, .inr (6, [.int v_count, .int v_bestSunday, .int v_mostLeft, .ref h_this_fitting, .ref h_this_feltSo])), (h_this_feltSo, .inl (cI, 100, .inl v_feltSo)), (h_this_fitting, .inl (cI, 90, .inl v_fitting))] s.heap.size = A at hD ⊢
  have hA : ∀ q : Nat, s.heap.size ≤ q → A q := fun q h => by rw [← hAe]; exact Or.inr h
  have hS : va_S A s.heap s.heap [] := va_S.rf
  have hP : va_P D vwCl [(h_this, .inr (6, [.int v_count, .int v_bestSunday, .int v_mostLeft, .ref h_this_fitting, .ref h_this_feltSo])), (h_this_feltSo, .inl (cI, 100, .inl v_feltSo)), (h_this_fitting, .inl (cI, 90, .inl v_fitting))] s.heap := hP
  have hl := lv_entry ([.ref h_this]) (n := 3) (Nat.le_of_ble_eq_true rfl)
  rw [lg_entry_eq]
  generalize (lg_sl ([.ref h_this]) ++ List.replicate (3 - (lg_sl ([.ref h_this])).length) Slot.unset).toArray = ls at hl ⊢
  have hl : lv_has ls 3 [(0, .ref h_this)] := hl
  refine lv_aload_n hx hb dX6_chooseSunday_0 rfl (lv_at hl 0 rfl) ?_
  refine lv_bipush (v := (-6 : Int32)) hx hb dX6_chooseSunday_1 (by decide) ?_
  refine va_put (D := D) (ci := 6) (v := .int (-6 : Int32)) (ty := .int) (C := RX6) (T := TX6) (N := 5) hx hb hts mcX6_chooseSunday_X6 tyX6 tyX6_ok nmX6 hown hK.1 hP hD hS 0 rfl rfl 1 (by decide) (hts _ mwX6_chooseSunday_1) (fun _ h9 => h9) rfl (by decide +kernel) rfl rfl (Nat.le_of_ble_eq_true rfl) dX6_chooseSunday_3 (fun H locs hP hD hS => ?_)
  have hP : va_P D vwCl [(h_this, .inr (6, [.int v_count, .int (-6 : Int32), .int v_mostLeft, .ref h_this_fitting, .ref h_this_feltSo])), (h_this_feltSo, .inl (cI, 100, .inl v_feltSo)), (h_this_fitting, .inl (cI, 90, .inl v_fitting))] H := hP
  have hD : va_D A [(h_this, .inr (6, [.int v_count, .int (-6 : Int32), .int v_mostLeft, .ref h_this_fitting, .ref h_this_feltSo])), (h_this_feltSo, .inl (cI, 100, .inl v_feltSo)), (h_this_fitting, .inl (cI, 90, .inl v_fitting))] := hD
  refine lv_aload_n hx hb dX6_chooseSunday_6 rfl (lv_at hl 0 rfl) ?_
  refine lv_bipush (v := (-6 : Int32)) hx hb dX6_chooseSunday_7 (by decide) ?_
  refine va_put (D := D) (ci := 6) (v := .int (-6 : Int32)) (ty := .int) (C := RX6) (T := TX6) (N := 5) hx hb hts mcX6_chooseSunday_X6 tyX6 tyX6_ok nmX6 hown hK.1 hP hD hS 0 rfl rfl 2 (by decide) (hts _ mwX6_chooseSunday_2) (fun _ h9 => h9) rfl (by decide +kernel) rfl rfl (Nat.le_of_ble_eq_true rfl) dX6_chooseSunday_9 (fun H locs hP hD hS => ?_)
  have hP : va_P D vwCl [(h_this, .inr (6, [.int v_count, .int (-6 : Int32), .int (-6 : Int32), .ref h_this_fitting, .ref h_this_feltSo])), (h_this_feltSo, .inl (cI, 100, .inl v_feltSo)), (h_this_fitting, .inl (cI, 90, .inl v_fitting))] H := hP
  have hD : va_D A [(h_this, .inr (6, [.int v_count, .int (-6 : Int32), .int (-6 : Int32), .ref h_this_fitting, .ref h_this_feltSo])), (h_this_feltSo, .inl (cI, 100, .inl v_feltSo)), (h_this_fitting, .inl (cI, 90, .inl v_fitting))] := hD
  refine lv_iconst (v := (0 : Int32)) hx hb dX6_chooseSunday_12 (by decide) ?_
  refine lv_istore_n (lv' := [(1, .int (0 : Int32)), (0, .ref h_this)]) hx hb dX6_chooseSunday_13 rfl hl (by decide) rfl (fun ls hl => ?_)
  obtain ⟨⟨n0_1, hi0_1⟩, vc⟩ := vc
  refine kloop (V := Int32 × Int32 × Int32 × (Nat → Int32)) (I := fun n v => IX6_chooseSunday_14 v_count v_bestSunday v_mostLeft v_feltSo v_fitting n (v.1) (v.2.1) (v.2.2.1) (v.2.2.2)) (wv := fun v => [(h_this, .inr (6, [.int v_count, .int (v.2.1), .int (v.2.2.1), .ref h_this_fitting, .ref h_this_feltSo])), (h_this_feltSo, .inl (cI, 100, .inl (v.2.2.2))), (h_this_fitting, .inl (cI, 90, .inl v_fitting))]) (lv := fun v => [(0, .ref h_this), (1, .int (v.1))]) n0_1 ((0 : Int32), (-6 : Int32), (-6 : Int32), v_feltSo) hi0_1 hP hD hS (lv_sub hl [1, 0] rfl) ?_
  intro n_1 v_1 hi_1 ih_1 H locs hP hD hS ls hl
  obtain ⟨i_2, g_3, g_4, f_5⟩ := v_1
  replace vc := vc n_1 i_2 g_3 g_4 f_5 hi_1
  have hP : va_P D vwCl [(h_this, .inr (6, [.int v_count, .int g_3, .int g_4, .ref h_this_fitting, .ref h_this_feltSo])), (h_this_feltSo, .inl (cI, 100, .inl f_5)), (h_this_fitting, .inl (cI, 90, .inl v_fitting))] H := hP
  have hD : va_D A [(h_this, .inr (6, [.int v_count, .int g_3, .int g_4, .ref h_this_fitting, .ref h_this_feltSo])), (h_this_feltSo, .inl (cI, 100, .inl f_5)), (h_this_fitting, .inl (cI, 90, .inl v_fitting))] := hD
  have hl : lv_has ls 3 [(0, .ref h_this), (1, .int i_2)] := hl
  refine lv_iload_n hx hb dX6_chooseSunday_14 rfl (lv_at hl 1 rfl) ?_
  refine lv_bipush (v := (60 : Int32)) hx hb dX6_chooseSunday_15 (by decide) ?_
  refine lv_icmp_gt (tgt := 66) hx hb dX6_chooseSunday_17 (by decide) (fun c_ => ?_) (fun c_ => ?_)
  · replace vc := vc.1 c_
    exact W.vret hx hb hr (fun t ht hW => ⟨⟨(g_3, g_4, f_5), rfl, vc, QB_mk (hP.sub [0, 1, 2] rfl) (hD.sub [0, 1, 2] rfl rfl) ht⟩, hS.F ht⟩) hS.2.2 dX6_chooseSunday_66
  · replace vc := vc.2 c_
    refine lv_aload_n hx hb dX6_chooseSunday_20 rfl (lv_at hl 0 rfl) ?_
    refine va_get (D := D) (ci := 6) (v := .int v_count) (C := RX6) (T := TX6) (N := 5) hx hb hts mcX6_chooseSunday_X6 hown hK.1 hP 0 rfl rfl 0 (by decide) (hts _ mwX6_chooseSunday_3) (fun _ h9 => h9) rfl dX6_chooseSunday_21 ?_
    refine lv_if_le (tgt := 66) hx hb dX6_chooseSunday_24 (by decide) (fun c_ => ?_) (fun c_ => ?_)
    · replace vc := vc.1 c_
      exact W.vret hx hb hr (fun t ht hW => ⟨⟨(g_3, g_4, f_5), rfl, vc, QB_mk (hP.sub [0, 1, 2] rfl) (hD.sub [0, 1, 2] rfl rfl) ht⟩, hS.F ht⟩) hS.2.2 dX6_chooseSunday_66
    · replace vc := vc.2 c_
      refine lv_aload_n hx hb dX6_chooseSunday_27 rfl (lv_at hl 0 rfl) ?_
      refine lv_iload_n hx hb dX6_chooseSunday_28 rfl (lv_at hl 1 rfl) ?_
      refine kj_i (wr := []) (rest := []) (kV ⟨hx, hb, hml, hown, hts⟩ (kX6_mostLeftBy _ h_this h_this_fitting h_this_feltSo i_2 v_count g_3 g_4 f_5 v_fitting vc.1) (cwV 1 hts gX6_chooseSunday_X6_mostLeftBy rfl rfl rfl (by decide +kernel) ⟨(Nat.le_of_ble_eq_true rfl), (Nat.le_of_ble_eq_true rfl)⟩) hK hP hD [0, 1, 2] rfl rfl 0 6 rfl rfl rfl rfl rfl hl.1 (Nat.le_of_ble_eq_true rfl) dX6_chooseSunday_29 ⟨(Nat.le_of_ble_eq_true rfl), (Nat.le_of_ble_eq_true rfl)⟩) hP hD hS hA [0, 1, 2] [] rfl rfl rfl rfl (fun r_7 u_ H locs hq_ hP hD hS => ?_)
      obtain ⟨f_6, rfl⟩ : ∃ z, z = u_ := ⟨_, rfl⟩
      replace vc := vc.2 r_7 f_6 hq_
      have hP : va_P D vwCl [(h_this, .inr (6, [.int v_count, .int g_3, .int g_4, .ref h_this_fitting, .ref h_this_feltSo])), (h_this_feltSo, .inl (cI, 100, .inl f_6)), (h_this_fitting, .inl (cI, 90, .inl v_fitting))] H := hP
      have hD : va_D A [(h_this, .inr (6, [.int v_count, .int g_3, .int g_4, .ref h_this_fitting, .ref h_this_feltSo])), (h_this_feltSo, .inl (cI, 100, .inl f_6)), (h_this_fitting, .inl (cI, 90, .inl v_fitting))] := hD
      refine lv_istore_n (lv' := [(2, .int r_7), (0, .ref h_this), (1, .int i_2)]) hx hb dX6_chooseSunday_32 rfl hl (by decide) rfl (fun ls hl => ?_)
      refine lv_aload_n hx hb dX6_chooseSunday_33 rfl (lv_at hl 1 rfl) ?_
      refine va_get (D := D) (ci := 6) (v := .int g_3) (C := RX6) (T := TX6) (N := 5) hx hb hts mcX6_chooseSunday_X6 hown hK.1 hP 0 rfl rfl 1 (by decide) (hts _ mwX6_chooseSunday_1) (fun _ h9 => h9) rfl dX6_chooseSunday_34 ?_
      refine lv_bipush (v := (-6 : Int32)) hx hb dX6_chooseSunday_37 (by decide) ?_
      refine lv_icmp_eq (tgt := 50) hx hb dX6_chooseSunday_39 (by decide) (fun c_ => ?_) (fun c_ => ?_)
      · replace vc := vc.1 c_
        refine lv_aload_n hx hb dX6_chooseSunday_50 rfl (lv_at hl 1 rfl) ?_
        refine lv_iload_n hx hb dX6_chooseSunday_51 rfl (lv_at hl 2 rfl) ?_
        refine va_put (D := D) (ci := 6) (v := .int i_2) (ty := .int) (C := RX6) (T := TX6) (N := 5) hx hb hts mcX6_chooseSunday_X6 tyX6 tyX6_ok nmX6 hown hK.1 hP hD hS 0 rfl rfl 1 (by decide) (hts _ mwX6_chooseSunday_1) (fun _ h9 => h9) rfl (by decide +kernel) rfl rfl (Nat.le_of_ble_eq_true rfl) dX6_chooseSunday_52 (fun H locs hP hD hS => ?_)
        have hP : va_P D vwCl [(h_this, .inr (6, [.int v_count, .int i_2, .int g_4, .ref h_this_fitting, .ref h_this_feltSo])), (h_this_feltSo, .inl (cI, 100, .inl f_6)), (h_this_fitting, .inl (cI, 90, .inl v_fitting))] H := hP
        have hD : va_D A [(h_this, .inr (6, [.int v_count, .int i_2, .int g_4, .ref h_this_fitting, .ref h_this_feltSo])), (h_this_feltSo, .inl (cI, 100, .inl f_6)), (h_this_fitting, .inl (cI, 90, .inl v_fitting))] := hD
        refine lv_aload_n hx hb dX6_chooseSunday_55 rfl (lv_at hl 1 rfl) ?_
        refine lv_iload_n hx hb dX6_chooseSunday_56 rfl (lv_at hl 0 rfl) ?_
        refine va_put (D := D) (ci := 6) (v := .int r_7) (ty := .int) (C := RX6) (T := TX6) (N := 5) hx hb hts mcX6_chooseSunday_X6 tyX6 tyX6_ok nmX6 hown hK.1 hP hD hS 0 rfl rfl 2 (by decide) (hts _ mwX6_chooseSunday_2) (fun _ h9 => h9) rfl (by decide +kernel) rfl rfl (Nat.le_of_ble_eq_true rfl) dX6_chooseSunday_57 (fun H locs hP hD hS => ?_)
        have hP : va_P D vwCl [(h_this, .inr (6, [.int v_count, .int i_2, .int r_7, .ref h_this_fitting, .ref h_this_feltSo])), (h_this_feltSo, .inl (cI, 100, .inl f_6)), (h_this_fitting, .inl (cI, 90, .inl v_fitting))] H := hP
        have hD : va_D A [(h_this, .inr (6, [.int v_count, .int i_2, .int r_7, .ref h_this_fitting, .ref h_this_feltSo])), (h_this_feltSo, .inl (cI, 100, .inl f_6)), (h_this_fitting, .inl (cI, 90, .inl v_fitting))] := hD
        obtain ⟨x_8, ex_8⟩ : ∃ y_ : Int32, y_ = (i_2 + (1 : Int32)) := ⟨_, rfl⟩
        replace vc := vc x_8 ex_8
        refine lv_iinc (v := x_8) (lv' := [(1, .int x_8), (2, .int r_7), (0, .ref h_this)]) hx hb dX6_chooseSunday_60 hl (k := 2) rfl (by rw [ex_8]; rfl) (by decide) rfl (fun ls hl => ?_)
        refine lv_goto (tgt := 14) hx hb dX6_chooseSunday_63 (by decide) ?_
        obtain ⟨n1_, hlt_, hi_⟩ := vc
        exact ih_1 n1_ (x_8, i_2, r_7, f_6) hlt_ hi_ _ _ hP hD hS ls (lv_sub hl [2, 0] rfl)
      · replace vc := vc.2 c_
        refine lv_iload_n hx hb dX6_chooseSunday_42 rfl (lv_at hl 0 rfl) ?_
        refine lv_aload_n hx hb dX6_chooseSunday_43 rfl (lv_at hl 1 rfl) ?_
        refine va_get (D := D) (ci := 6) (v := .int g_4) (C := RX6) (T := TX6) (N := 5) hx hb hts mcX6_chooseSunday_X6 hown hK.1 hP 0 rfl rfl 2 (by decide) (hts _ mwX6_chooseSunday_2) (fun _ h9 => h9) rfl dX6_chooseSunday_44 ?_
        refine lv_icmp_ge (tgt := 60) hx hb dX6_chooseSunday_47 (by decide) (fun c_ => ?_) (fun c_ => ?_)
        · replace vc := vc.1 c_
          obtain ⟨x_9, ex_9⟩ : ∃ y_ : Int32, y_ = (i_2 + (1 : Int32)) := ⟨_, rfl⟩
          replace vc := vc x_9 ex_9
          refine lv_iinc (v := x_9) (lv' := [(1, .int x_9), (2, .int r_7), (0, .ref h_this)]) hx hb dX6_chooseSunday_60 hl (k := 2) rfl (by rw [ex_9]; rfl) (by decide) rfl (fun ls hl => ?_)
          refine lv_goto (tgt := 14) hx hb dX6_chooseSunday_63 (by decide) ?_
          obtain ⟨n1_, hlt_, hi_⟩ := vc
          exact ih_1 n1_ (x_9, g_3, g_4, f_6) hlt_ hi_ _ _ hP hD hS ls (lv_sub hl [2, 0] rfl)
        · replace vc := vc.2 c_
          refine lv_aload_n hx hb dX6_chooseSunday_50 rfl (lv_at hl 1 rfl) ?_
          refine lv_iload_n hx hb dX6_chooseSunday_51 rfl (lv_at hl 2 rfl) ?_
          refine va_put (D := D) (ci := 6) (v := .int i_2) (ty := .int) (C := RX6) (T := TX6) (N := 5) hx hb hts mcX6_chooseSunday_X6 tyX6 tyX6_ok nmX6 hown hK.1 hP hD hS 0 rfl rfl 1 (by decide) (hts _ mwX6_chooseSunday_1) (fun _ h9 => h9) rfl (by decide +kernel) rfl rfl (Nat.le_of_ble_eq_true rfl) dX6_chooseSunday_52 (fun H locs hP hD hS => ?_)
          have hP : va_P D vwCl [(h_this, .inr (6, [.int v_count, .int i_2, .int g_4, .ref h_this_fitting, .ref h_this_feltSo])), (h_this_feltSo, .inl (cI, 100, .inl f_6)), (h_this_fitting, .inl (cI, 90, .inl v_fitting))] H := hP
          have hD : va_D A [(h_this, .inr (6, [.int v_count, .int i_2, .int g_4, .ref h_this_fitting, .ref h_this_feltSo])), (h_this_feltSo, .inl (cI, 100, .inl f_6)), (h_this_fitting, .inl (cI, 90, .inl v_fitting))] := hD
          refine lv_aload_n hx hb dX6_chooseSunday_55 rfl (lv_at hl 1 rfl) ?_
          refine lv_iload_n hx hb dX6_chooseSunday_56 rfl (lv_at hl 0 rfl) ?_
          refine va_put (D := D) (ci := 6) (v := .int r_7) (ty := .int) (C := RX6) (T := TX6) (N := 5) hx hb hts mcX6_chooseSunday_X6 tyX6 tyX6_ok nmX6 hown hK.1 hP hD hS 0 rfl rfl 2 (by decide) (hts _ mwX6_chooseSunday_2) (fun _ h9 => h9) rfl (by decide +kernel) rfl rfl (Nat.le_of_ble_eq_true rfl) dX6_chooseSunday_57 (fun H locs hP hD hS => ?_)
          have hP : va_P D vwCl [(h_this, .inr (6, [.int v_count, .int i_2, .int r_7, .ref h_this_fitting, .ref h_this_feltSo])), (h_this_feltSo, .inl (cI, 100, .inl f_6)), (h_this_fitting, .inl (cI, 90, .inl v_fitting))] H := hP
          have hD : va_D A [(h_this, .inr (6, [.int v_count, .int i_2, .int r_7, .ref h_this_fitting, .ref h_this_feltSo])), (h_this_feltSo, .inl (cI, 100, .inl f_6)), (h_this_fitting, .inl (cI, 90, .inl v_fitting))] := hD
          obtain ⟨x_10, ex_10⟩ : ∃ y_ : Int32, y_ = (i_2 + (1 : Int32)) := ⟨_, rfl⟩
          replace vc := vc x_10 ex_10
          refine lv_iinc (v := x_10) (lv' := [(1, .int x_10), (2, .int r_7), (0, .ref h_this)]) hx hb dX6_chooseSunday_60 hl (k := 2) rfl (by rw [ex_10]; rfl) (by decide) rfl (fun ls hl => ?_)
          refine lv_goto (tgt := 14) hx hb dX6_chooseSunday_63 (by decide) ?_
          obtain ⟨n1_, hlt_, hi_⟩ := vc
          exact ih_1 n1_ (x_10, i_2, r_7, f_6) hlt_ hi_ _ _ hP hD hS ls (lv_sub hl [2, 0] rfl)

theorem mwX7_init_1 : Cond.methodLink RX7 3 objectInit ∈ wsX7_init := List.mem_of_getElem? (i := 1) rfl
theorem mwX7_init_2 : Cond.instanceMethod objectInit ∈ wsX7_init := List.mem_of_getElem? (i := 2) rfl
theorem mwX7_init_3 : Cond.code objectInit ⟨#[0xb1]⟩ 1 none ∈ wsX7_init := List.mem_of_getElem? (i := 3) rfl
def KX7_init (l : Launch) (D : va_G) (cI cZ : ClassId) (Q : Int32 → Int32 → Int32 → Int32 → Int32 → Int32 → Prop) : Prop := ∀ (sz : Nat) (h_this : Nat), MV l yX7_init wsX7_init ({ frames := 1, cells := 0, slots := 0, locals := 30 }) [.ref h_this] D cI cZ sz [(h_this, .inr (7, [.int 0, .int 0, .int 0, .int 0, .int 0, .int 0]))] (fun (u : Int32 × Int32 × Int32 × Int32 × Int32 × Int32) => Q  (u.1) (u.2.1) (u.2.2.1) (u.2.2.2.1) (u.2.2.2.2.1) (u.2.2.2.2.2)) (fun u => [(h_this, .inr (7, [.int (u.1), .int (u.2.1), .int (u.2.2.1), .int (u.2.2.2.1), .int (u.2.2.2.2.1), .int (u.2.2.2.2.2)]))]) 0 0
set_option maxHeartbeats 4000000 in
set_option maxRecDepth 100000 in
theorem walkX7_init {l : Launch} {D : va_G} {cI cZ : ClassId} {QX7_init : Int32 → Int32 → Int32 → Int32 → Int32 → Int32 → Prop}  (hvc : QX7_init 0 0 0 0 0 0) : KX7_init l D cI cZ QX7_init := by
  intro sz h_this 
  have vc := hvc
  clear hvc
  refine Met.ofW (cc := cX7_init) (maxL := 1) (ret := none) (by decide) rfl ?_
  intro p e s m args below meth c s₁ B hml hv
  obtain ⟨rfl, hsz, hP, hK, hD0⟩ := hv
  have hx := B.exec
  have hb := B.bytes
  have hr := B.returns
  have hts := atoms_spec (ws := wsX7_init) B.pre
  have hown : s.vm.findClass RX7 = some m.cls := findClass_of_methodNamed B.named
  have hlocks := B.notSynchronized
  have hin : meth.name = "<init>" := (name_of_methodNamed B.named B.method).1
  subst hsz
  have hD := hD0.self (sz := s.heap.size)
  generalize hAe : va_A [(h_this, .inr (7, [.int 0, .int 0, .int 0, .int 0, .int 0, .int 0]))] s.heap.size = A at hD ⊢
  have hA : ∀ q : Nat, s.heap.size ≤ q → A q := fun q h => by rw [← hAe]; exact Or.inr h
  have hS : va_S A s.heap s.heap [] := va_S.rf
  have hP : va_P D vwCl [(h_this, .inr (7, [.int 0, .int 0, .int 0, .int 0, .int 0, .int 0]))] s.heap := hP
  have hl := lv_entry ([.ref h_this]) (n := 1) (Nat.le_of_ble_eq_true rfl)
  rw [lg_entry_eq]
  generalize (lg_sl ([.ref h_this]) ++ List.replicate (1 - (lg_sl ([.ref h_this])).length) Slot.unset).toArray = ls at hl ⊢
  have hl : lv_has ls 1 [(0, .ref h_this)] := hl
  refine lv_aload_n hx hb dX7_init_0 rfl (lv_at hl 0 rfl) ?_
  refine W.objInit hx hb hown (hts _ mwX7_init_1) (hts _ mwX7_init_2) (hts _ mwX7_init_3) rfl (by rw [hml]; exact hl.1) rfl dX7_init_1 (Nat.le_of_ble_eq_true rfl) (Nat.le_of_ble_eq_true rfl) ?_
  refine W.eq (g2 := F0 m 4 ls []) rfl ?_
  exact W.vret hx hb hr (fun t ht hW => ⟨⟨(0, 0, 0, 0, 0, 0), rfl, vc, QB_mk (hP.sub [0] rfl) (hD.sub [0] rfl rfl) ht⟩, hS.F ht⟩) hS.2.2 dX7_init_4

theorem mwX7_noteSwept_1 : Cond.fieldLink RX7 21 "HassockSee$Years" "sweptCount" "I" ∈ wsX7_noteSwept := List.mem_of_getElem? (i := 1) rfl
theorem mwX7_noteSwept_2 : Cond.fieldLink RX7 9 "HassockSee$Years" "acts" "I" ∈ wsX7_noteSwept := List.mem_of_getElem? (i := 2) rfl
theorem mwX7_noteSwept_3 : Cond.fieldLink RX7 24 "HassockSee$Years" "sweepingAct" "I" ∈ wsX7_noteSwept := List.mem_of_getElem? (i := 3) rfl
theorem mwX7_noteSwept_4 : Cond.fieldLink RX7 27 "HassockSee$Years" "sweptHassock" "I" ∈ wsX7_noteSwept := List.mem_of_getElem? (i := 4) rfl
theorem mcX7_noteSwept_X7 : ∀ w ∈ u_ws RX7 TX7 6, w ∈ wsX7_noteSwept := fun _ h => (List.mem_cons_of_mem _ (List.mem_append_right _ h))
def KX7_noteSwept (l : Launch) (D : va_G) (cI cZ : ClassId) (P : Int32 → Int32 → Int32 → Int32 → Int32 → Prop) (Q : Int32 → Int32 → Int32 → Int32 → Int32 → Int32 → Int32 → Int32 → Prop) : Prop := ∀ (sz : Nat) (h_this : Nat) (p0 : Int32) (v_acts : Int32) (v_badAct : Int32) (v_reason : Int32) (v_sweptCount : Int32) (v_sweepingAct : Int32) (v_sweptHassock : Int32), P p0 v_acts v_sweptCount v_sweepingAct v_sweptHassock → MV l yX7_noteSwept wsX7_noteSwept ({ frames := 0, cells := 0, slots := 0, locals := 0 }) [.ref h_this, .int p0] D cI cZ sz [(h_this, .inr (7, [.int v_acts, .int v_badAct, .int v_reason, .int v_sweptCount, .int v_sweepingAct, .int v_sweptHassock]))] (fun (u : Int32 × Int32 × Int32) => Q p0 v_acts v_sweptCount v_sweepingAct v_sweptHassock (u.1) (u.2.1) (u.2.2)) (fun u => [(h_this, .inr (7, [.int v_acts, .int v_badAct, .int v_reason, .int (u.1), .int (u.2.1), .int (u.2.2)]))]) 0 0
set_option maxHeartbeats 4000000 in
set_option maxRecDepth 100000 in
theorem walkX7_noteSwept {l : Launch} {D : va_G} {cI cZ : ClassId} {PX7_noteSwept : Int32 → Int32 → Int32 → Int32 → Int32 → Prop} {QX7_noteSwept : Int32 → Int32 → Int32 → Int32 → Int32 → Int32 → Int32 → Int32 → Prop}  (hvc : ∀ (p0 : Int32) (v_acts : Int32) (v_sweptCount : Int32) (v_sweepingAct : Int32) (v_sweptHassock : Int32), PX7_noteSwept p0 v_acts v_sweptCount v_sweepingAct v_sweptHassock → ((¬ v_sweptCount = 0 → (∀ x_1 : Int32, x_1 = (v_sweptCount + (1 : Int32)) → (QX7_noteSwept p0 v_acts v_sweptCount v_sweepingAct v_sweptHassock x_1 v_sweepingAct v_sweptHassock))) ∧ (v_sweptCount = 0 → (∀ x_2 : Int32, x_2 = (v_sweptCount + (1 : Int32)) → (QX7_noteSwept p0 v_acts v_sweptCount v_sweepingAct v_sweptHassock x_2 v_acts p0))))) : KX7_noteSwept l D cI cZ PX7_noteSwept QX7_noteSwept := by
  intro sz h_this p0 v_acts v_badAct v_reason v_sweptCount v_sweepingAct v_sweptHassock hpre
  have vc := hvc p0 v_acts v_sweptCount v_sweepingAct v_sweptHassock hpre
  clear hvc
  refine Met.ofW (cc := cX7_noteSwept) (maxL := 2) (ret := none) (by decide) rfl ?_
  intro p e s m args below meth c s₁ B hml hv
  obtain ⟨rfl, hsz, hP, hK, hD0⟩ := hv
  have hx := B.exec
  have hb := B.bytes
  have hr := B.returns
  have hts := atoms_spec (ws := wsX7_noteSwept) B.pre
  have hown : s.vm.findClass RX7 = some m.cls := findClass_of_methodNamed B.named
  have hlocks := B.notSynchronized
  subst hsz
  have hD := hD0.self (sz := s.heap.size)
  generalize hAe : va_A [(h_this, .inr (7, [.int v_acts, .int v_badAct, .int v_reason, .int v_sweptCount, .int v_sweepingAct, .int v_sweptHassock]))] s.heap.size = A at hD ⊢
  have hA : ∀ q : Nat, s.heap.size ≤ q → A q := fun q h => by rw [← hAe]; exact Or.inr h
  have hS : va_S A s.heap s.heap [] := va_S.rf
  have hP : va_P D vwCl [(h_this, .inr (7, [.int v_acts, .int v_badAct, .int v_reason, .int v_sweptCount, .int v_sweepingAct, .int v_sweptHassock]))] s.heap := hP
  have hl := lv_entry ([.ref h_this, .int p0]) (n := 2) (Nat.le_of_ble_eq_true rfl)
  rw [lg_entry_eq]
  generalize (lg_sl ([.ref h_this, .int p0]) ++ List.replicate (2 - (lg_sl ([.ref h_this, .int p0])).length) Slot.unset).toArray = ls at hl ⊢
  have hl : lv_has ls 2 [(0, .ref h_this), (1, .int p0)] := hl
  refine lv_aload_n hx hb dX7_noteSwept_0 rfl (lv_at hl 0 rfl) ?_
  refine va_get (D := D) (ci := 7) (v := .int v_sweptCount) (C := RX7) (T := TX7) (N := 6) hx hb hts mcX7_noteSwept_X7 hown hK.1 hP 0 rfl rfl 3 (by decide) (hts _ mwX7_noteSwept_1) (fun _ h9 => h9) rfl dX7_noteSwept_1 ?_
  refine lv_if_ne (tgt := 20) hx hb dX7_noteSwept_4 (by decide) (fun c_ => ?_) (fun c_ => ?_)
  · replace vc := vc.1 c_
    refine lv_aload_n hx hb dX7_noteSwept_20 rfl (lv_at hl 0 rfl) ?_
    refine lv_dup hx hb dX7_noteSwept_21 rfl ?_
    refine va_get (D := D) (ci := 7) (v := .int v_sweptCount) (C := RX7) (T := TX7) (N := 6) hx hb hts mcX7_noteSwept_X7 hown hK.1 hP 0 rfl rfl 3 (by decide) (hts _ mwX7_noteSwept_1) (fun _ h9 => h9) rfl dX7_noteSwept_22 ?_
    refine lv_iconst (v := (1 : Int32)) hx hb dX7_noteSwept_25 (by decide) ?_
    refine lv_iadd hx hb dX7_noteSwept_26 ?_
    refine lv_topi (fun x_1 ex_1 => ?_)
    replace vc := vc x_1 ex_1
    refine va_put (D := D) (ci := 7) (v := .int x_1) (ty := .int) (C := RX7) (T := TX7) (N := 6) hx hb hts mcX7_noteSwept_X7 tyX7 tyX7_ok nmX7 hown hK.1 hP hD hS 0 rfl rfl 3 (by decide) (hts _ mwX7_noteSwept_1) (fun _ h9 => h9) rfl (by decide +kernel) rfl rfl (Nat.le_of_ble_eq_true rfl) dX7_noteSwept_27 (fun H locs hP hD hS => ?_)
    have hP : va_P D vwCl [(h_this, .inr (7, [.int v_acts, .int v_badAct, .int v_reason, .int x_1, .int v_sweepingAct, .int v_sweptHassock]))] H := hP
    have hD : va_D A [(h_this, .inr (7, [.int v_acts, .int v_badAct, .int v_reason, .int x_1, .int v_sweepingAct, .int v_sweptHassock]))] := hD
    exact W.vret hx hb hr (fun t ht hW => ⟨⟨(x_1, v_sweepingAct, v_sweptHassock), rfl, vc, QB_mk (hP.sub [0] rfl) (hD.sub [0] rfl rfl) ht⟩, hS.F ht⟩) hS.2.2 dX7_noteSwept_30
  · replace vc := vc.2 c_
    refine lv_aload_n hx hb dX7_noteSwept_7 rfl (lv_at hl 0 rfl) ?_
    refine lv_aload_n hx hb dX7_noteSwept_8 rfl (lv_at hl 0 rfl) ?_
    refine va_get (D := D) (ci := 7) (v := .int v_acts) (C := RX7) (T := TX7) (N := 6) hx hb hts mcX7_noteSwept_X7 hown hK.1 hP 0 rfl rfl 0 (by decide) (hts _ mwX7_noteSwept_2) (fun _ h9 => h9) rfl dX7_noteSwept_9 ?_
    refine va_put (D := D) (ci := 7) (v := .int v_acts) (ty := .int) (C := RX7) (T := TX7) (N := 6) hx hb hts mcX7_noteSwept_X7 tyX7 tyX7_ok nmX7 hown hK.1 hP hD hS 0 rfl rfl 4 (by decide) (hts _ mwX7_noteSwept_3) (fun _ h9 => h9) rfl (by decide +kernel) rfl rfl (Nat.le_of_ble_eq_true rfl) dX7_noteSwept_12 (fun H locs hP hD hS => ?_)
    have hP : va_P D vwCl [(h_this, .inr (7, [.int v_acts, .int v_badAct, .int v_reason, .int v_sweptCount, .int v_acts, .int v_sweptHassock]))] H := hP
    have hD : va_D A [(h_this, .inr (7, [.int v_acts, .int v_badAct, .int v_reason, .int v_sweptCount, .int v_acts, .int v_sweptHassock]))] := hD
    refine lv_aload_n hx hb dX7_noteSwept_15 rfl (lv_at hl 0 rfl) ?_
    refine lv_iload_n hx hb dX7_noteSwept_16 rfl (lv_at hl 1 rfl) ?_
    refine va_put (D := D) (ci := 7) (v := .int p0) (ty := .int) (C := RX7) (T := TX7) (N := 6) hx hb hts mcX7_noteSwept_X7 tyX7 tyX7_ok nmX7 hown hK.1 hP hD hS 0 rfl rfl 5 (by decide) (hts _ mwX7_noteSwept_4) (fun _ h9 => h9) rfl (by decide +kernel) rfl rfl (Nat.le_of_ble_eq_true rfl) dX7_noteSwept_17 (fun H locs hP hD hS => ?_)
    have hP : va_P D vwCl [(h_this, .inr (7, [.int v_acts, .int v_badAct, .int v_reason, .int v_sweptCount, .int v_acts, .int p0]))] H := hP
    have hD : va_D A [(h_this, .inr (7, [.int v_acts, .int v_badAct, .int v_reason, .int v_sweptCount, .int v_acts, .int p0]))] := hD
    refine lv_aload_n hx hb dX7_noteSwept_20 rfl (lv_at hl 0 rfl) ?_
    refine lv_dup hx hb dX7_noteSwept_21 rfl ?_
    refine va_get (D := D) (ci := 7) (v := .int v_sweptCount) (C := RX7) (T := TX7) (N := 6) hx hb hts mcX7_noteSwept_X7 hown hK.1 hP 0 rfl rfl 3 (by decide) (hts _ mwX7_noteSwept_1) (fun _ h9 => h9) rfl dX7_noteSwept_22 ?_
    refine lv_iconst (v := (1 : Int32)) hx hb dX7_noteSwept_25 (by decide) ?_
    refine lv_iadd hx hb dX7_noteSwept_26 ?_
    refine lv_topi (fun x_2 ex_2 => ?_)
    replace vc := vc x_2 ex_2
    refine va_put (D := D) (ci := 7) (v := .int x_2) (ty := .int) (C := RX7) (T := TX7) (N := 6) hx hb hts mcX7_noteSwept_X7 tyX7 tyX7_ok nmX7 hown hK.1 hP hD hS 0 rfl rfl 3 (by decide) (hts _ mwX7_noteSwept_1) (fun _ h9 => h9) rfl (by decide +kernel) rfl rfl (Nat.le_of_ble_eq_true rfl) dX7_noteSwept_27 (fun H locs hP hD hS => ?_)
    have hP : va_P D vwCl [(h_this, .inr (7, [.int v_acts, .int v_badAct, .int v_reason, .int x_2, .int v_acts, .int p0]))] H := hP
    have hD : va_D A [(h_this, .inr (7, [.int v_acts, .int v_badAct, .int v_reason, .int x_2, .int v_acts, .int p0]))] := hD
    exact W.vret hx hb hr (fun t ht hW => ⟨⟨(x_2, v_acts, p0), rfl, vc, QB_mk (hP.sub [0] rfl) (hD.sub [0] rfl rfl) ht⟩, hS.F ht⟩) hS.2.2 dX7_noteSwept_30

theorem mwX7_run_1 : Cond.fieldLink RX7 9 "HassockSee$Years" "acts" "I" ∈ wsX7_run := List.mem_of_getElem? (i := 1) rfl
theorem mwX7_run_2 : Cond.fieldLink RX7 15 "HassockSee$Years" "badAct" "I" ∈ wsX7_run := List.mem_of_getElem? (i := 2) rfl
theorem mwX7_run_3 : Cond.fieldLink RX7 18 "HassockSee$Years" "reason" "I" ∈ wsX7_run := List.mem_of_getElem? (i := 3) rfl
theorem mwX7_run_4 : Cond.fieldLink RX7 21 "HassockSee$Years" "sweptCount" "I" ∈ wsX7_run := List.mem_of_getElem? (i := 4) rfl
theorem mwX7_run_5 : Cond.fieldLink RX7 24 "HassockSee$Years" "sweepingAct" "I" ∈ wsX7_run := List.mem_of_getElem? (i := 5) rfl
theorem mwX7_run_6 : Cond.fieldLink RX7 27 "HassockSee$Years" "sweptHassock" "I" ∈ wsX7_run := List.mem_of_getElem? (i := 6) rfl
theorem mwX7_run_7 : Cond.fieldLink RX7 30 "HassockSee$Pad" "count" "I" ∈ wsX7_run := List.mem_of_getElem? (i := 7) rfl
theorem mcX7_run_X3 : ∀ w ∈ u_ws RX3 TX3 2, w ∈ wsX7_run := fun _ h => (List.mem_cons_of_mem _ (List.mem_append_left _ (List.mem_append_right _ h)))
theorem mcX7_run_X7 : ∀ w ∈ u_ws RX7 TX7 6, w ∈ wsX7_run := fun _ h => (List.mem_cons_of_mem _ (List.mem_append_left _ (List.mem_append_left _ (List.mem_append_right _ h))))
def KX7_run (l : Launch) (D : va_G) (cI cZ : ClassId) (P : Int32 → Int32 → Int32 → Int32 → Int32 → Int32 → Int32 → (Nat → Int32) → Int32 → Int32 → Int32 → (Nat → Int32) → (Nat → Int32) → (Nat → Int32) → Prop) (Q : Int32 → Int32 → Int32 → Int32 → Int32 → Int32 → Int32 → (Nat → Int32) → Int32 → Int32 → Int32 → (Nat → Int32) → (Nat → Int32) → (Nat → Int32) → Int32 → Int32 → Int32 → Int32 → Int32 → Int32 → Int32 → Int32 → Int32 → (Nat → Int32) → (Nat → Int32) → (Nat → Int32) → Prop) : Prop := ∀ (sz : Nat) (h_this h_a0 h_a1 h_a0_signs h_a1_wool h_a1_stitches h_a1_place : Nat) (v_acts : Int32) (v_badAct : Int32) (v_reason : Int32) (v_sweptCount : Int32) (v_sweepingAct : Int32) (v_sweptHassock : Int32) (v_a0_count : Int32) (v_a0_signs : (Nat → Int32)) (v_a1_there : Int32) (v_a1_hair : Int32) (v_a1_year : Int32) (v_a1_place : (Nat → Int32)) (v_a1_stitches : (Nat → Int32)) (v_a1_wool : (Nat → Int32)), P v_acts v_badAct v_reason v_sweptCount v_sweepingAct v_sweptHassock v_a0_count v_a0_signs v_a1_there v_a1_hair v_a1_year v_a1_place v_a1_stitches v_a1_wool → MV l yX7_run wsX7_run ({ frames := 5, cells := 0, slots := 0, locals := 110 }) [.ref h_this, .ref h_a0, .ref h_a1] D cI cZ sz [(h_this, .inr (7, [.int v_acts, .int v_badAct, .int v_reason, .int v_sweptCount, .int v_sweepingAct, .int v_sweptHassock])), (h_a0, .inr (3, [.int v_a0_count, .ref h_a0_signs])), (h_a0_signs, .inl (cI, 60, .inl v_a0_signs)), (h_a1, .inr (1, [.int v_a1_there, .int v_a1_hair, .int v_a1_year, .ref h_a1_wool, .ref h_a1_stitches, .ref h_a1_place])), (h_a1_place, .inl (cI, 10, .inl v_a1_place)), (h_a1_stitches, .inl (cI, 10, .inl v_a1_stitches)), (h_a1_wool, .inl (cI, 10, .inl v_a1_wool))] (fun (u : Int32 × Int32 × Int32 × Int32 × Int32 × Int32 × Int32 × Int32 × Int32 × (Nat → Int32) × (Nat → Int32) × (Nat → Int32)) => Q v_acts v_badAct v_reason v_sweptCount v_sweepingAct v_sweptHassock v_a0_count v_a0_signs v_a1_there v_a1_hair v_a1_year v_a1_place v_a1_stitches v_a1_wool (u.1) (u.2.1) (u.2.2.1) (u.2.2.2.1) (u.2.2.2.2.1) (u.2.2.2.2.2.1) (u.2.2.2.2.2.2.1) (u.2.2.2.2.2.2.2.1) (u.2.2.2.2.2.2.2.2.1) (u.2.2.2.2.2.2.2.2.2.1) (u.2.2.2.2.2.2.2.2.2.2.1) (u.2.2.2.2.2.2.2.2.2.2.2)) (fun u => [(h_this, .inr (7, [.int (u.1), .int (u.2.1), .int (u.2.2.1), .int (u.2.2.2.1), .int (u.2.2.2.2.1), .int (u.2.2.2.2.2.1)])), (h_a0, .inr (3, [.int v_a0_count, .ref h_a0_signs])), (h_a0_signs, .inl (cI, 60, .inl v_a0_signs)), (h_a1, .inr (1, [.int (u.2.2.2.2.2.2.1), .int (u.2.2.2.2.2.2.2.1), .int (u.2.2.2.2.2.2.2.2.1), .ref h_a1_wool, .ref h_a1_stitches, .ref h_a1_place])), (h_a1_place, .inl (cI, 10, .inl (u.2.2.2.2.2.2.2.2.2.1))), (h_a1_stitches, .inl (cI, 10, .inl (u.2.2.2.2.2.2.2.2.2.2.1))), (h_a1_wool, .inl (cI, 10, .inl (u.2.2.2.2.2.2.2.2.2.2.2)))]) 0 0
set_option maxHeartbeats 4000000 in
set_option maxRecDepth 100000 in
theorem walkX7_run {l : Launch} {D : va_G} {cI cZ : ClassId} {PX7_run : Int32 → Int32 → Int32 → Int32 → Int32 → Int32 → Int32 → (Nat → Int32) → Int32 → Int32 → Int32 → (Nat → Int32) → (Nat → Int32) → (Nat → Int32) → Prop} {QX7_run : Int32 → Int32 → Int32 → Int32 → Int32 → Int32 → Int32 → (Nat → Int32) → Int32 → Int32 → Int32 → (Nat → Int32) → (Nat → Int32) → (Nat → Int32) → Int32 → Int32 → Int32 → Int32 → Int32 → Int32 → Int32 → Int32 → Int32 → (Nat → Int32) → (Nat → Int32) → (Nat → Int32) → Prop} {PX3_kindAt : Int32 → Int32 → (Nat → Int32) → Prop} {QX3_kindAt : Int32 → Int32 → (Nat → Int32) → Int32 → Prop} {PX3_whoAt : Int32 → Int32 → (Nat → Int32) → Prop} {QX3_whoAt : Int32 → Int32 → (Nat → Int32) → Int32 → Prop} {PX3_numberAt : Int32 → Int32 → (Nat → Int32) → Prop} {QX3_numberAt : Int32 → Int32 → (Nat → Int32) → Int32 → Prop} {PX1_attempt : Int32 → Int32 → Int32 → Int32 → Int32 → Int32 → (Nat → Int32) → (Nat → Int32) → (Nat → Int32) → Prop} {QX1_attempt : Int32 → Int32 → Int32 → Int32 → Int32 → Int32 → (Nat → Int32) → (Nat → Int32) → (Nat → Int32) → Int32 → Int32 → Int32 → Int32 → (Nat → Int32) → (Nat → Int32) → (Nat → Int32) → Prop} {PX3_lengthAt : Int32 → Int32 → (Nat → Int32) → Prop} {QX3_lengthAt : Int32 → Int32 → (Nat → Int32) → Int32 → Prop} {PX1_isThere : Int32 → Int32 → Prop} {QX1_isThere : Int32 → Int32 → Int32 → Prop} {PX7_noteSwept : Int32 → Int32 → Int32 → Int32 → Int32 → Prop} {QX7_noteSwept : Int32 → Int32 → Int32 → Int32 → Int32 → Int32 → Int32 → Int32 → Prop} (kX3_kindAt : KX3_kindAt l D cI cZ PX3_kindAt QX3_kindAt) (kX3_whoAt : KX3_whoAt l D cI cZ PX3_whoAt QX3_whoAt) (kX3_numberAt : KX3_numberAt l D cI cZ PX3_numberAt QX3_numberAt) (kX1_attempt : KX1_attempt l D cI cZ PX1_attempt QX1_attempt) (kX3_lengthAt : KX3_lengthAt l D cI cZ PX3_lengthAt QX3_lengthAt) (kX1_isThere : KX1_isThere l D cI cZ PX1_isThere QX1_isThere) (kX7_noteSwept : KX7_noteSwept l D cI cZ PX7_noteSwept QX7_noteSwept) (IX7_run_39 : Int32 → Int32 → Int32 → Int32 → Int32 → Int32 → Int32 → (Nat → Int32) → Int32 → Int32 → Int32 → (Nat → Int32) → (Nat → Int32) → (Nat → Int32) → Nat → Int32 → Int32 → Int32 → Int32 → Int32 → Int32 → Int32 → Int32 → Int32 → Int32 → Int32 → (Nat → Int32) → (Nat → Int32) → (Nat → Int32) → Prop) (hvc : ∀ (v_acts : Int32) (v_badAct : Int32) (v_reason : Int32) (v_sweptCount : Int32) (v_sweepingAct : Int32) (v_sweptHassock : Int32) (v_a0_count : Int32) (v_a0_signs : (Nat → Int32)) (v_a1_there : Int32) (v_a1_hair : Int32) (v_a1_year : Int32) (v_a1_place : (Nat → Int32)) (v_a1_stitches : (Nat → Int32)) (v_a1_wool : (Nat → Int32)), PX7_run v_acts v_badAct v_reason v_sweptCount v_sweepingAct v_sweptHassock v_a0_count v_a0_signs v_a1_there v_a1_hair v_a1_year v_a1_place v_a1_stitches v_a1_wool → ((∃ n0 : Nat, IX7_run_39 v_acts v_badAct v_reason v_sweptCount v_sweepingAct v_sweptHassock v_a0_count v_a0_signs v_a1_there v_a1_hair v_a1_year v_a1_place v_a1_stitches v_a1_wool n0 (0 : Int32) (0 : Int32) (0 : Int32) (-6 : Int32) (-6 : Int32) (0 : Int32) (-6 : Int32) (-6 : Int32) v_a1_there v_a1_hair v_a1_year v_a1_place v_a1_stitches v_a1_wool) ∧ (∀ (n_1 : Nat) (i_2 : Int32) (i_3 : Int32) (g_4 : Int32) (g_5 : Int32) (g_6 : Int32) (g_7 : Int32) (f_8 : (Nat → Int32)) (f_9 : (Nat → Int32)) (f_10 : (Nat → Int32)) (g_11 : Int32) (g_12 : Int32) (g_13 : Int32), (IX7_run_39 v_acts v_badAct v_reason v_sweptCount v_sweepingAct v_sweptHassock v_a0_count v_a0_signs v_a1_there v_a1_hair v_a1_year v_a1_place v_a1_stitches v_a1_wool n_1 i_2 i_3 g_4 (-6 : Int32) (-6 : Int32) g_11 g_12 g_13 g_5 g_6 g_7 f_8 f_9 f_10 → (((60 : Int32) ≤ i_3 → (QX7_run v_acts v_badAct v_reason v_sweptCount v_sweepingAct v_sweptHassock v_a0_count v_a0_signs v_a1_there v_a1_hair v_a1_year v_a1_place v_a1_stitches v_a1_wool g_4 (-6 : Int32) (-6 : Int32) g_11 g_12 g_13 g_5 g_6 g_7 f_8 f_9 f_10)) ∧ (¬ (60 : Int32) ≤ i_3 → ((v_a0_count ≤ i_2 → (QX7_run v_acts v_badAct v_reason v_sweptCount v_sweepingAct v_sweptHassock v_a0_count v_a0_signs v_a1_there v_a1_hair v_a1_year v_a1_place v_a1_stitches v_a1_wool g_4 (-6 : Int32) (-6 : Int32) g_11 g_12 g_13 g_5 g_6 g_7 f_8 f_9 f_10)) ∧ (¬ v_a0_count ≤ i_2 → (PX3_kindAt i_2 v_a0_count v_a0_signs ∧ (∀ (r_14 : Int32), QX3_kindAt i_2 v_a0_count v_a0_signs r_14  → (PX3_whoAt i_2 v_a0_count v_a0_signs ∧ (∀ (r_15 : Int32), QX3_whoAt i_2 v_a0_count v_a0_signs r_15  → (PX3_numberAt i_2 v_a0_count v_a0_signs ∧ (∀ (r_16 : Int32), QX3_numberAt i_2 v_a0_count v_a0_signs r_16  → (PX1_attempt r_14 r_15 r_16 g_5 g_6 g_7 f_8 f_9 f_10 ∧ (∀ (r_23 : Int32) (g_17 : Int32) (g_18 : Int32) (g_19 : Int32) (f_20 : (Nat → Int32)) (f_21 : (Nat → Int32)) (f_22 : (Nat → Int32)), QX1_attempt r_14 r_15 r_16 g_5 g_6 g_7 f_8 f_9 f_10 r_23 g_17 g_18 g_19 f_20 f_21 f_22 → ((r_23 = 0 → ((¬ r_14 = 0 → (∀ x_24 : Int32, x_24 = (g_4 + (1 : Int32)) → (PX3_lengthAt i_2 v_a0_count v_a0_signs ∧ (∀ (r_25 : Int32), QX3_lengthAt i_2 v_a0_count v_a0_signs r_25  → (∀ x_26 : Int32, x_26 = (i_2 + r_25) → (∀ x_27 : Int32, x_27 = (i_3 + (1 : Int32)) → (∃ n1 : Nat, n1 < n_1 ∧ IX7_run_39 v_acts v_badAct v_reason v_sweptCount v_sweepingAct v_sweptHassock v_a0_count v_a0_signs v_a1_there v_a1_hair v_a1_year v_a1_place v_a1_stitches v_a1_wool n1 x_26 x_27 x_24 (-6 : Int32) (-6 : Int32) g_11 g_12 g_13 g_17 g_18 g_19 f_20 f_21 f_22))))))) ∧ (r_14 = 0 → (PX1_isThere r_15 g_17 ∧ (∀ (r_28 : Int32), QX1_isThere r_15 g_17 r_28  → ((¬ r_28 = 0 → (∀ x_29 : Int32, x_29 = (g_4 + (1 : Int32)) → (PX3_lengthAt i_2 v_a0_count v_a0_signs ∧ (∀ (r_30 : Int32), QX3_lengthAt i_2 v_a0_count v_a0_signs r_30  → (∀ x_31 : Int32, x_31 = (i_2 + r_30) → (∀ x_32 : Int32, x_32 = (i_3 + (1 : Int32)) → (∃ n1 : Nat, n1 < n_1 ∧ IX7_run_39 v_acts v_badAct v_reason v_sweptCount v_sweepingAct v_sweptHassock v_a0_count v_a0_signs v_a1_there v_a1_hair v_a1_year v_a1_place v_a1_stitches v_a1_wool n1 x_31 x_32 x_29 (-6 : Int32) (-6 : Int32) g_11 g_12 g_13 g_17 g_18 g_19 f_20 f_21 f_22))))))) ∧ (r_28 = 0 → (PX7_noteSwept r_15 g_4 g_11 g_12 g_13 ∧ (∀ (g_33 : Int32) (g_34 : Int32) (g_35 : Int32), QX7_noteSwept r_15 g_4 g_11 g_12 g_13 g_33 g_34 g_35 → (∀ x_36 : Int32, x_36 = (g_4 + (1 : Int32)) → (PX3_lengthAt i_2 v_a0_count v_a0_signs ∧ (∀ (r_37 : Int32), QX3_lengthAt i_2 v_a0_count v_a0_signs r_37  → (∀ x_38 : Int32, x_38 = (i_2 + r_37) → (∀ x_39 : Int32, x_39 = (i_3 + (1 : Int32)) → (∃ n1 : Nat, n1 < n_1 ∧ IX7_run_39 v_acts v_badAct v_reason v_sweptCount v_sweepingAct v_sweptHassock v_a0_count v_a0_signs v_a1_there v_a1_hair v_a1_year v_a1_place v_a1_stitches v_a1_wool n1 x_38 x_39 x_36 (-6 : Int32) (-6 : Int32) g_33 g_34 g_35 g_17 g_18 g_19 f_20 f_21 f_22))))))))))))))) ∧ (¬ r_23 = 0 → (QX7_run v_acts v_badAct v_reason v_sweptCount v_sweepingAct v_sweptHassock v_a0_count v_a0_signs v_a1_there v_a1_hair v_a1_year v_a1_place v_a1_stitches v_a1_wool g_4 i_3 r_23 g_11 g_12 g_13 g_17 g_18 g_19 f_20 f_21 f_22))))))))))))))))))) : KX7_run l D cI cZ PX7_run QX7_run := by
  intro sz h_this h_a0 h_a1 h_a0_signs h_a1_wool h_a1_stitches h_a1_place v_acts v_badAct v_reason v_sweptCount v_sweepingAct v_sweptHassock v_a0_count v_a0_signs v_a1_there v_a1_hair v_a1_year v_a1_place v_a1_stitches v_a1_wool hpre
  have vc := hvc v_acts v_badAct v_reason v_sweptCount v_sweepingAct v_sweptHassock v_a0_count v_a0_signs v_a1_there v_a1_hair v_a1_year v_a1_place v_a1_stitches v_a1_wool hpre
  clear hvc
  refine Met.ofW (cc := cX7_run) (maxL := 8) (ret := none) (by decide) rfl ?_
  intro p e s m args below meth c s₁ B hml hv
  obtain ⟨rfl, hsz, hP, hK, hD0⟩ := hv
  have hx := B.exec
  have hb := B.bytes
  have hr := B.returns
  have hts := atoms_spec (ws := wsX7_run) B.pre
  have hown : s.vm.findClass RX7 = some m.cls := findClass_of_methodNamed B.named
  have hlocks := B.notSynchronized
  subst hsz
  have hD := hD0.self (sz := s.heap.size)
  generalize hAe : va_A [(h_this, .inr (7, [.int v_acts, .int v_badAct, .int v_reason, .int v_sweptCount, .int v_sweepingAct, .int v_sweptHassock])), (h_a0, .inr (3, [.int v_a0_count, .ref h_a0_signs])), (h_a0_signs, .inl (cI, 60, .inl v_a0_signs)), (h_a1, .inr (1, [.int v_a1_there, .int v_a1_hair, .int v_a1_year, .ref h_a1_wool, .ref h_a1_stitches, .ref h_a1_place])), (h_a1_place, .inl (cI, 10, .inl v_a1_place)), (h_a1_stitches, .inl (cI, 10, .inl v_a1_stitches)), (h_a1_wool, .inl (cI, 10, .inl v_a1_wool))] s.heap.size = A at hD ⊢
  have hA : ∀ q : Nat, s.heap.size ≤ q → A q := fun q h => by rw [← hAe]; exact Or.inr h
  have hS : va_S A s.heap s.heap [] := va_S.rf
  have hP : va_P D vwCl [(h_this, .inr (7, [.int v_acts, .int v_badAct, .int v_reason, .int v_sweptCount, .int v_sweepingAct, .int v_sweptHassock])), (h_a0, .inr (3, [.int v_a0_count, .ref h_a0_signs])), (h_a0_signs, .inl (cI, 60, .inl v_a0_signs)), (h_a1, .inr (1, [.int v_a1_there, .int v_a1_hair, .int v_a1_year, .ref h_a1_wool, .ref h_a1_stitches, .ref h_a1_place])), (h_a1_place, .inl (cI, 10, .inl v_a1_place)), (h_a1_stitches, .inl (cI, 10, .inl v_a1_stitches)), (h_a1_wool, .inl (cI, 10, .inl v_a1_wool))] s.heap := hP
  have hl := lv_entry ([.ref h_this, .ref h_a0, .ref h_a1]) (n := 8) (Nat.le_of_ble_eq_true rfl)
  rw [lg_entry_eq]
  generalize (lg_sl ([.ref h_this, .ref h_a0, .ref h_a1]) ++ List.replicate (8 - (lg_sl ([.ref h_this, .ref h_a0, .ref h_a1])).length) Slot.unset).toArray = ls at hl ⊢
  have hl : lv_has ls 8 [(0, .ref h_this), (1, .ref h_a0), (2, .ref h_a1)] := hl
  refine lv_aload_n hx hb dX7_run_0 rfl (lv_at hl 0 rfl) ?_
  refine lv_iconst (v := (0 : Int32)) hx hb dX7_run_1 (by decide) ?_
  refine va_put (D := D) (ci := 7) (v := .int (0 : Int32)) (ty := .int) (C := RX7) (T := TX7) (N := 6) hx hb hts mcX7_run_X7 tyX7 tyX7_ok nmX7 hown hK.1 hP hD hS 0 rfl rfl 0 (by decide) (hts _ mwX7_run_1) (fun _ h9 => h9) rfl (by decide +kernel) rfl rfl (Nat.le_of_ble_eq_true rfl) dX7_run_2 (fun H locs hP hD hS => ?_)
  have hP : va_P D vwCl [(h_this, .inr (7, [.int (0 : Int32), .int v_badAct, .int v_reason, .int v_sweptCount, .int v_sweepingAct, .int v_sweptHassock])), (h_a0, .inr (3, [.int v_a0_count, .ref h_a0_signs])), (h_a0_signs, .inl (cI, 60, .inl v_a0_signs)), (h_a1, .inr (1, [.int v_a1_there, .int v_a1_hair, .int v_a1_year, .ref h_a1_wool, .ref h_a1_stitches, .ref h_a1_place])), (h_a1_place, .inl (cI, 10, .inl v_a1_place)), (h_a1_stitches, .inl (cI, 10, .inl v_a1_stitches)), (h_a1_wool, .inl (cI, 10, .inl v_a1_wool))] H := hP
  have hD : va_D A [(h_this, .inr (7, [.int (0 : Int32), .int v_badAct, .int v_reason, .int v_sweptCount, .int v_sweepingAct, .int v_sweptHassock])), (h_a0, .inr (3, [.int v_a0_count, .ref h_a0_signs])), (h_a0_signs, .inl (cI, 60, .inl v_a0_signs)), (h_a1, .inr (1, [.int v_a1_there, .int v_a1_hair, .int v_a1_year, .ref h_a1_wool, .ref h_a1_stitches, .ref h_a1_place])), (h_a1_place, .inl (cI, 10, .inl v_a1_place)), (h_a1_stitches, .inl (cI, 10, .inl v_a1_stitches)), (h_a1_wool, .inl (cI, 10, .inl v_a1_wool))] := hD
  refine lv_aload_n hx hb dX7_run_5 rfl (lv_at hl 0 rfl) ?_
  refine lv_bipush (v := (-6 : Int32)) hx hb dX7_run_6 (by decide) ?_
  refine va_put (D := D) (ci := 7) (v := .int (-6 : Int32)) (ty := .int) (C := RX7) (T := TX7) (N := 6) hx hb hts mcX7_run_X7 tyX7 tyX7_ok nmX7 hown hK.1 hP hD hS 0 rfl rfl 1 (by decide) (hts _ mwX7_run_2) (fun _ h9 => h9) rfl (by decide +kernel) rfl rfl (Nat.le_of_ble_eq_true rfl) dX7_run_8 (fun H locs hP hD hS => ?_)
  have hP : va_P D vwCl [(h_this, .inr (7, [.int (0 : Int32), .int (-6 : Int32), .int v_reason, .int v_sweptCount, .int v_sweepingAct, .int v_sweptHassock])), (h_a0, .inr (3, [.int v_a0_count, .ref h_a0_signs])), (h_a0_signs, .inl (cI, 60, .inl v_a0_signs)), (h_a1, .inr (1, [.int v_a1_there, .int v_a1_hair, .int v_a1_year, .ref h_a1_wool, .ref h_a1_stitches, .ref h_a1_place])), (h_a1_place, .inl (cI, 10, .inl v_a1_place)), (h_a1_stitches, .inl (cI, 10, .inl v_a1_stitches)), (h_a1_wool, .inl (cI, 10, .inl v_a1_wool))] H := hP
  have hD : va_D A [(h_this, .inr (7, [.int (0 : Int32), .int (-6 : Int32), .int v_reason, .int v_sweptCount, .int v_sweepingAct, .int v_sweptHassock])), (h_a0, .inr (3, [.int v_a0_count, .ref h_a0_signs])), (h_a0_signs, .inl (cI, 60, .inl v_a0_signs)), (h_a1, .inr (1, [.int v_a1_there, .int v_a1_hair, .int v_a1_year, .ref h_a1_wool, .ref h_a1_stitches, .ref h_a1_place])), (h_a1_place, .inl (cI, 10, .inl v_a1_place)), (h_a1_stitches, .inl (cI, 10, .inl v_a1_stitches)), (h_a1_wool, .inl (cI, 10, .inl v_a1_wool))] := hD
  refine lv_aload_n hx hb dX7_run_11 rfl (lv_at hl 0 rfl) ?_
  refine lv_bipush (v := (-6 : Int32)) hx hb dX7_run_12 (by decide) ?_
  refine va_put (D := D) (ci := 7) (v := .int (-6 : Int32)) (ty := .int) (C := RX7) (T := TX7) (N := 6) hx hb hts mcX7_run_X7 tyX7 tyX7_ok nmX7 hown hK.1 hP hD hS 0 rfl rfl 2 (by decide) (hts _ mwX7_run_3) (fun _ h9 => h9) rfl (by decide +kernel) rfl rfl (Nat.le_of_ble_eq_true rfl) dX7_run_14 (fun H locs hP hD hS => ?_)
  have hP : va_P D vwCl [(h_this, .inr (7, [.int (0 : Int32), .int (-6 : Int32), .int (-6 : Int32), .int v_sweptCount, .int v_sweepingAct, .int v_sweptHassock])), (h_a0, .inr (3, [.int v_a0_count, .ref h_a0_signs])), (h_a0_signs, .inl (cI, 60, .inl v_a0_signs)), (h_a1, .inr (1, [.int v_a1_there, .int v_a1_hair, .int v_a1_year, .ref h_a1_wool, .ref h_a1_stitches, .ref h_a1_place])), (h_a1_place, .inl (cI, 10, .inl v_a1_place)), (h_a1_stitches, .inl (cI, 10, .inl v_a1_stitches)), (h_a1_wool, .inl (cI, 10, .inl v_a1_wool))] H := hP
  have hD : va_D A [(h_this, .inr (7, [.int (0 : Int32), .int (-6 : Int32), .int (-6 : Int32), .int v_sweptCount, .int v_sweepingAct, .int v_sweptHassock])), (h_a0, .inr (3, [.int v_a0_count, .ref h_a0_signs])), (h_a0_signs, .inl (cI, 60, .inl v_a0_signs)), (h_a1, .inr (1, [.int v_a1_there, .int v_a1_hair, .int v_a1_year, .ref h_a1_wool, .ref h_a1_stitches, .ref h_a1_place])), (h_a1_place, .inl (cI, 10, .inl v_a1_place)), (h_a1_stitches, .inl (cI, 10, .inl v_a1_stitches)), (h_a1_wool, .inl (cI, 10, .inl v_a1_wool))] := hD
  refine lv_aload_n hx hb dX7_run_17 rfl (lv_at hl 0 rfl) ?_
  refine lv_iconst (v := (0 : Int32)) hx hb dX7_run_18 (by decide) ?_
  refine va_put (D := D) (ci := 7) (v := .int (0 : Int32)) (ty := .int) (C := RX7) (T := TX7) (N := 6) hx hb hts mcX7_run_X7 tyX7 tyX7_ok nmX7 hown hK.1 hP hD hS 0 rfl rfl 3 (by decide) (hts _ mwX7_run_4) (fun _ h9 => h9) rfl (by decide +kernel) rfl rfl (Nat.le_of_ble_eq_true rfl) dX7_run_19 (fun H locs hP hD hS => ?_)
  have hP : va_P D vwCl [(h_this, .inr (7, [.int (0 : Int32), .int (-6 : Int32), .int (-6 : Int32), .int (0 : Int32), .int v_sweepingAct, .int v_sweptHassock])), (h_a0, .inr (3, [.int v_a0_count, .ref h_a0_signs])), (h_a0_signs, .inl (cI, 60, .inl v_a0_signs)), (h_a1, .inr (1, [.int v_a1_there, .int v_a1_hair, .int v_a1_year, .ref h_a1_wool, .ref h_a1_stitches, .ref h_a1_place])), (h_a1_place, .inl (cI, 10, .inl v_a1_place)), (h_a1_stitches, .inl (cI, 10, .inl v_a1_stitches)), (h_a1_wool, .inl (cI, 10, .inl v_a1_wool))] H := hP
  have hD : va_D A [(h_this, .inr (7, [.int (0 : Int32), .int (-6 : Int32), .int (-6 : Int32), .int (0 : Int32), .int v_sweepingAct, .int v_sweptHassock])), (h_a0, .inr (3, [.int v_a0_count, .ref h_a0_signs])), (h_a0_signs, .inl (cI, 60, .inl v_a0_signs)), (h_a1, .inr (1, [.int v_a1_there, .int v_a1_hair, .int v_a1_year, .ref h_a1_wool, .ref h_a1_stitches, .ref h_a1_place])), (h_a1_place, .inl (cI, 10, .inl v_a1_place)), (h_a1_stitches, .inl (cI, 10, .inl v_a1_stitches)), (h_a1_wool, .inl (cI, 10, .inl v_a1_wool))] := hD
  refine lv_aload_n hx hb dX7_run_22 rfl (lv_at hl 0 rfl) ?_
  refine lv_bipush (v := (-6 : Int32)) hx hb dX7_run_23 (by decide) ?_
  refine va_put (D := D) (ci := 7) (v := .int (-6 : Int32)) (ty := .int) (C := RX7) (T := TX7) (N := 6) hx hb hts mcX7_run_X7 tyX7 tyX7_ok nmX7 hown hK.1 hP hD hS 0 rfl rfl 4 (by decide) (hts _ mwX7_run_5) (fun _ h9 => h9) rfl (by decide +kernel) rfl rfl (Nat.le_of_ble_eq_true rfl) dX7_run_25 (fun H locs hP hD hS => ?_)
  have hP : va_P D vwCl [(h_this, .inr (7, [.int (0 : Int32), .int (-6 : Int32), .int (-6 : Int32), .int (0 : Int32), .int (-6 : Int32), .int v_sweptHassock])), (h_a0, .inr (3, [.int v_a0_count, .ref h_a0_signs])), (h_a0_signs, .inl (cI, 60, .inl v_a0_signs)), (h_a1, .inr (1, [.int v_a1_there, .int v_a1_hair, .int v_a1_year, .ref h_a1_wool, .ref h_a1_stitches, .ref h_a1_place])), (h_a1_place, .inl (cI, 10, .inl v_a1_place)), (h_a1_stitches, .inl (cI, 10, .inl v_a1_stitches)), (h_a1_wool, .inl (cI, 10, .inl v_a1_wool))] H := hP
  have hD : va_D A [(h_this, .inr (7, [.int (0 : Int32), .int (-6 : Int32), .int (-6 : Int32), .int (0 : Int32), .int (-6 : Int32), .int v_sweptHassock])), (h_a0, .inr (3, [.int v_a0_count, .ref h_a0_signs])), (h_a0_signs, .inl (cI, 60, .inl v_a0_signs)), (h_a1, .inr (1, [.int v_a1_there, .int v_a1_hair, .int v_a1_year, .ref h_a1_wool, .ref h_a1_stitches, .ref h_a1_place])), (h_a1_place, .inl (cI, 10, .inl v_a1_place)), (h_a1_stitches, .inl (cI, 10, .inl v_a1_stitches)), (h_a1_wool, .inl (cI, 10, .inl v_a1_wool))] := hD
  refine lv_aload_n hx hb dX7_run_28 rfl (lv_at hl 0 rfl) ?_
  refine lv_bipush (v := (-6 : Int32)) hx hb dX7_run_29 (by decide) ?_
  refine va_put (D := D) (ci := 7) (v := .int (-6 : Int32)) (ty := .int) (C := RX7) (T := TX7) (N := 6) hx hb hts mcX7_run_X7 tyX7 tyX7_ok nmX7 hown hK.1 hP hD hS 0 rfl rfl 5 (by decide) (hts _ mwX7_run_6) (fun _ h9 => h9) rfl (by decide +kernel) rfl rfl (Nat.le_of_ble_eq_true rfl) dX7_run_31 (fun H locs hP hD hS => ?_)
  have hP : va_P D vwCl [(h_this, .inr (7, [.int (0 : Int32), .int (-6 : Int32), .int (-6 : Int32), .int (0 : Int32), .int (-6 : Int32), .int (-6 : Int32)])), (h_a0, .inr (3, [.int v_a0_count, .ref h_a0_signs])), (h_a0_signs, .inl (cI, 60, .inl v_a0_signs)), (h_a1, .inr (1, [.int v_a1_there, .int v_a1_hair, .int v_a1_year, .ref h_a1_wool, .ref h_a1_stitches, .ref h_a1_place])), (h_a1_place, .inl (cI, 10, .inl v_a1_place)), (h_a1_stitches, .inl (cI, 10, .inl v_a1_stitches)), (h_a1_wool, .inl (cI, 10, .inl v_a1_wool))] H := hP
  have hD : va_D A [(h_this, .inr (7, [.int (0 : Int32), .int (-6 : Int32), .int (-6 : Int32), .int (0 : Int32), .int (-6 : Int32), .int (-6 : Int32)])), (h_a0, .inr (3, [.int v_a0_count, .ref h_a0_signs])), (h_a0_signs, .inl (cI, 60, .inl v_a0_signs)), (h_a1, .inr (1, [.int v_a1_there, .int v_a1_hair, .int v_a1_year, .ref h_a1_wool, .ref h_a1_stitches, .ref h_a1_place])), (h_a1_place, .inl (cI, 10, .inl v_a1_place)), (h_a1_stitches, .inl (cI, 10, .inl v_a1_stitches)), (h_a1_wool, .inl (cI, 10, .inl v_a1_wool))] := hD
  refine lv_iconst (v := (0 : Int32)) hx hb dX7_run_34 (by decide) ?_
  refine lv_istore_n (lv' := [(3, .int (0 : Int32)), (0, .ref h_this), (1, .ref h_a0), (2, .ref h_a1)]) hx hb dX7_run_35 rfl hl (by decide) rfl (fun ls hl => ?_)
  refine lv_iconst (v := (0 : Int32)) hx hb dX7_run_36 (by decide) ?_
  refine lv_istore (lv' := [(4, .int (0 : Int32)), (3, .int (0 : Int32)), (0, .ref h_this), (1, .ref h_a0), (2, .ref h_a1)]) hx hb dX7_run_37 hl (by decide) rfl (fun ls hl => ?_)
  obtain ⟨⟨n0_1, hi0_1⟩, vc⟩ := vc
  refine kloop (V := Int32 × Int32 × Int32 × Int32 × Int32 × Int32 × (Nat → Int32) × (Nat → Int32) × (Nat → Int32) × Int32 × Int32 × Int32) (I := fun n v => IX7_run_39 v_acts v_badAct v_reason v_sweptCount v_sweepingAct v_sweptHassock v_a0_count v_a0_signs v_a1_there v_a1_hair v_a1_year v_a1_place v_a1_stitches v_a1_wool n (v.1) (v.2.1) (v.2.2.1) (-6 : Int32) (-6 : Int32) (v.2.2.2.2.2.2.2.2.2.1) (v.2.2.2.2.2.2.2.2.2.2.1) (v.2.2.2.2.2.2.2.2.2.2.2) (v.2.2.2.1) (v.2.2.2.2.1) (v.2.2.2.2.2.1) (v.2.2.2.2.2.2.1) (v.2.2.2.2.2.2.2.1) (v.2.2.2.2.2.2.2.2.1)) (wv := fun v => [(h_this, .inr (7, [.int (v.2.2.1), .int (-6 : Int32), .int (-6 : Int32), .int (v.2.2.2.2.2.2.2.2.2.1), .int (v.2.2.2.2.2.2.2.2.2.2.1), .int (v.2.2.2.2.2.2.2.2.2.2.2)])), (h_a0, .inr (3, [.int v_a0_count, .ref h_a0_signs])), (h_a0_signs, .inl (cI, 60, .inl v_a0_signs)), (h_a1, .inr (1, [.int (v.2.2.2.1), .int (v.2.2.2.2.1), .int (v.2.2.2.2.2.1), .ref h_a1_wool, .ref h_a1_stitches, .ref h_a1_place])), (h_a1_place, .inl (cI, 10, .inl (v.2.2.2.2.2.2.1))), (h_a1_stitches, .inl (cI, 10, .inl (v.2.2.2.2.2.2.2.1))), (h_a1_wool, .inl (cI, 10, .inl (v.2.2.2.2.2.2.2.2.1)))]) (lv := fun v => [(0, .ref h_this), (1, .ref h_a0), (2, .ref h_a1), (3, .int (v.1)), (4, .int (v.2.1))]) n0_1 ((0 : Int32), (0 : Int32), (0 : Int32), v_a1_there, v_a1_hair, v_a1_year, v_a1_place, v_a1_stitches, v_a1_wool, (0 : Int32), (-6 : Int32), (-6 : Int32)) hi0_1 hP hD hS (lv_sub hl [2, 3, 4, 1, 0] rfl) ?_
  intro n_1 v_1 hi_1 ih_1 H locs hP hD hS ls hl
  obtain ⟨i_2, i_3, g_4, g_5, g_6, g_7, f_8, f_9, f_10, g_11, g_12, g_13⟩ := v_1
  replace vc := vc n_1 i_2 i_3 g_4 g_5 g_6 g_7 f_8 f_9 f_10 g_11 g_12 g_13 hi_1
  have hP : va_P D vwCl [(h_this, .inr (7, [.int g_4, .int (-6 : Int32), .int (-6 : Int32), .int g_11, .int g_12, .int g_13])), (h_a0, .inr (3, [.int v_a0_count, .ref h_a0_signs])), (h_a0_signs, .inl (cI, 60, .inl v_a0_signs)), (h_a1, .inr (1, [.int g_5, .int g_6, .int g_7, .ref h_a1_wool, .ref h_a1_stitches, .ref h_a1_place])), (h_a1_place, .inl (cI, 10, .inl f_8)), (h_a1_stitches, .inl (cI, 10, .inl f_9)), (h_a1_wool, .inl (cI, 10, .inl f_10))] H := hP
  have hD : va_D A [(h_this, .inr (7, [.int g_4, .int (-6 : Int32), .int (-6 : Int32), .int g_11, .int g_12, .int g_13])), (h_a0, .inr (3, [.int v_a0_count, .ref h_a0_signs])), (h_a0_signs, .inl (cI, 60, .inl v_a0_signs)), (h_a1, .inr (1, [.int g_5, .int g_6, .int g_7, .ref h_a1_wool, .ref h_a1_stitches, .ref h_a1_place])), (h_a1_place, .inl (cI, 10, .inl f_8)), (h_a1_stitches, .inl (cI, 10, .inl f_9)), (h_a1_wool, .inl (cI, 10, .inl f_10))] := hD
  have hl : lv_has ls 8 [(0, .ref h_this), (1, .ref h_a0), (2, .ref h_a1), (3, .int i_2), (4, .int i_3)] := hl
  refine lv_iload hx hb dX7_run_39 (lv_at hl 4 rfl) ?_
  refine lv_bipush (v := (60 : Int32)) hx hb dX7_run_41 (by decide) ?_
  refine lv_icmp_ge (tgt := 145) hx hb dX7_run_43 (by decide) (fun c_ => ?_) (fun c_ => ?_)
  · replace vc := vc.1 c_
    exact W.vret hx hb hr (fun t ht hW => ⟨⟨(g_4, (-6 : Int32), (-6 : Int32), g_11, g_12, g_13, g_5, g_6, g_7, f_8, f_9, f_10), rfl, vc, QB_mk (hP.sub [0, 1, 2, 3, 4, 5, 6] rfl) (hD.sub [0, 1, 2, 3, 4, 5, 6] rfl rfl) ht⟩, hS.F ht⟩) hS.2.2 dX7_run_145
  · replace vc := vc.2 c_
    refine lv_iload_n hx hb dX7_run_46 rfl (lv_at hl 3 rfl) ?_
    refine lv_aload_n hx hb dX7_run_47 rfl (lv_at hl 1 rfl) ?_
    refine va_get (D := D) (ci := 3) (v := .int v_a0_count) (C := RX3) (T := TX3) (N := 2) hx hb hts mcX7_run_X3 hown hK.1 hP 1 rfl rfl 0 (by decide) (hts _ mwX7_run_7) (fun _ h9 => h9) rfl dX7_run_48 ?_
    refine lv_icmp_ge (tgt := 145) hx hb dX7_run_51 (by decide) (fun c_ => ?_) (fun c_ => ?_)
    · replace vc := vc.1 c_
      exact W.vret hx hb hr (fun t ht hW => ⟨⟨(g_4, (-6 : Int32), (-6 : Int32), g_11, g_12, g_13, g_5, g_6, g_7, f_8, f_9, f_10), rfl, vc, QB_mk (hP.sub [0, 1, 2, 3, 4, 5, 6] rfl) (hD.sub [0, 1, 2, 3, 4, 5, 6] rfl rfl) ht⟩, hS.F ht⟩) hS.2.2 dX7_run_145
    · replace vc := vc.2 c_
      refine lv_aload_n hx hb dX7_run_54 rfl (lv_at hl 1 rfl) ?_
      refine lv_iload_n hx hb dX7_run_55 rfl (lv_at hl 3 rfl) ?_
      refine kj_i (wr := [(h_this, .inr (7, [.int g_4, .int (-6 : Int32), .int (-6 : Int32), .int g_11, .int g_12, .int g_13])), (h_a1, .inr (1, [.int g_5, .int g_6, .int g_7, .ref h_a1_wool, .ref h_a1_stitches, .ref h_a1_place])), (h_a1_place, .inl (cI, 10, .inl f_8)), (h_a1_stitches, .inl (cI, 10, .inl f_9)), (h_a1_wool, .inl (cI, 10, .inl f_10))]) (rest := []) (kV ⟨hx, hb, hml, hown, hts⟩ (kX3_kindAt _ h_a0 h_a0_signs i_2 v_a0_count v_a0_signs vc.1) (cwV 1 hts gX7_run_X3_kindAt rfl rfl rfl (by decide +kernel) ⟨(Nat.le_of_ble_eq_true rfl), (Nat.le_of_ble_eq_true rfl)⟩) hK hP hD [1, 2] rfl rfl 0 3 rfl rfl rfl rfl rfl hl.1 (Nat.le_of_ble_eq_true rfl) dX7_run_56 ⟨(Nat.le_of_ble_eq_true rfl), (Nat.le_of_ble_eq_true rfl)⟩) hP hD hS hA [1, 2] [0, 3, 4, 5, 6] rfl rfl rfl rfl (fun r_14 u_ H locs hq_ hP hD hS => ?_)
      replace vc := vc.2 r_14  hq_
      have hP : va_P D vwCl [(h_this, .inr (7, [.int g_4, .int (-6 : Int32), .int (-6 : Int32), .int g_11, .int g_12, .int g_13])), (h_a1, .inr (1, [.int g_5, .int g_6, .int g_7, .ref h_a1_wool, .ref h_a1_stitches, .ref h_a1_place])), (h_a1_place, .inl (cI, 10, .inl f_8)), (h_a1_stitches, .inl (cI, 10, .inl f_9)), (h_a1_wool, .inl (cI, 10, .inl f_10)), (h_a0, .inr (3, [.int v_a0_count, .ref h_a0_signs])), (h_a0_signs, .inl (cI, 60, .inl v_a0_signs))] H := hP
      have hD : va_D A [(h_this, .inr (7, [.int g_4, .int (-6 : Int32), .int (-6 : Int32), .int g_11, .int g_12, .int g_13])), (h_a1, .inr (1, [.int g_5, .int g_6, .int g_7, .ref h_a1_wool, .ref h_a1_stitches, .ref h_a1_place])), (h_a1_place, .inl (cI, 10, .inl f_8)), (h_a1_stitches, .inl (cI, 10, .inl f_9)), (h_a1_wool, .inl (cI, 10, .inl f_10)), (h_a0, .inr (3, [.int v_a0_count, .ref h_a0_signs])), (h_a0_signs, .inl (cI, 60, .inl v_a0_signs))] := hD
      refine lv_istore (lv' := [(5, .int r_14), (0, .ref h_this), (1, .ref h_a0), (2, .ref h_a1), (3, .int i_2), (4, .int i_3)]) hx hb dX7_run_59 hl (by decide) rfl (fun ls hl => ?_)
      refine lv_aload_n hx hb dX7_run_61 rfl (lv_at hl 2 rfl) ?_
      refine lv_iload_n hx hb dX7_run_62 rfl (lv_at hl 4 rfl) ?_
      refine kj_i (wr := [(h_this, .inr (7, [.int g_4, .int (-6 : Int32), .int (-6 : Int32), .int g_11, .int g_12, .int g_13])), (h_a1, .inr (1, [.int g_5, .int g_6, .int g_7, .ref h_a1_wool, .ref h_a1_stitches, .ref h_a1_place])), (h_a1_place, .inl (cI, 10, .inl f_8)), (h_a1_stitches, .inl (cI, 10, .inl f_9)), (h_a1_wool, .inl (cI, 10, .inl f_10))]) (rest := []) (kV ⟨hx, hb, hml, hown, hts⟩ (kX3_whoAt _ h_a0 h_a0_signs i_2 v_a0_count v_a0_signs vc.1) (cwV 1 hts gX7_run_X3_whoAt rfl rfl rfl (by decide +kernel) ⟨(Nat.le_of_ble_eq_true rfl), (Nat.le_of_ble_eq_true rfl)⟩) hK hP hD [5, 6] rfl rfl 0 3 rfl rfl rfl rfl rfl hl.1 (Nat.le_of_ble_eq_true rfl) dX7_run_63 ⟨(Nat.le_of_ble_eq_true rfl), (Nat.le_of_ble_eq_true rfl)⟩) hP hD hS hA [5, 6] [0, 1, 2, 3, 4] rfl rfl rfl rfl (fun r_15 u_ H locs hq_ hP hD hS => ?_)
      replace vc := vc.2 r_15  hq_
      have hP : va_P D vwCl [(h_this, .inr (7, [.int g_4, .int (-6 : Int32), .int (-6 : Int32), .int g_11, .int g_12, .int g_13])), (h_a1, .inr (1, [.int g_5, .int g_6, .int g_7, .ref h_a1_wool, .ref h_a1_stitches, .ref h_a1_place])), (h_a1_place, .inl (cI, 10, .inl f_8)), (h_a1_stitches, .inl (cI, 10, .inl f_9)), (h_a1_wool, .inl (cI, 10, .inl f_10)), (h_a0, .inr (3, [.int v_a0_count, .ref h_a0_signs])), (h_a0_signs, .inl (cI, 60, .inl v_a0_signs))] H := hP
      have hD : va_D A [(h_this, .inr (7, [.int g_4, .int (-6 : Int32), .int (-6 : Int32), .int g_11, .int g_12, .int g_13])), (h_a1, .inr (1, [.int g_5, .int g_6, .int g_7, .ref h_a1_wool, .ref h_a1_stitches, .ref h_a1_place])), (h_a1_place, .inl (cI, 10, .inl f_8)), (h_a1_stitches, .inl (cI, 10, .inl f_9)), (h_a1_wool, .inl (cI, 10, .inl f_10)), (h_a0, .inr (3, [.int v_a0_count, .ref h_a0_signs])), (h_a0_signs, .inl (cI, 60, .inl v_a0_signs))] := hD
      refine lv_istore (lv' := [(6, .int r_15), (5, .int r_14), (0, .ref h_this), (1, .ref h_a0), (2, .ref h_a1), (3, .int i_2), (4, .int i_3)]) hx hb dX7_run_66 hl (by decide) rfl (fun ls hl => ?_)
      refine lv_aload_n hx hb dX7_run_68 rfl (lv_at hl 4 rfl) ?_
      refine lv_iload hx hb dX7_run_69 (lv_at hl 1 rfl) ?_
      refine lv_iload hx hb dX7_run_71 (lv_at hl 0 rfl) ?_
      refine lv_aload_n hx hb dX7_run_73 rfl (lv_at hl 3 rfl) ?_
      refine lv_iload_n hx hb dX7_run_74 rfl (lv_at hl 5 rfl) ?_
      refine kj_i (wr := [(h_this, .inr (7, [.int g_4, .int (-6 : Int32), .int (-6 : Int32), .int g_11, .int g_12, .int g_13])), (h_a1, .inr (1, [.int g_5, .int g_6, .int g_7, .ref h_a1_wool, .ref h_a1_stitches, .ref h_a1_place])), (h_a1_place, .inl (cI, 10, .inl f_8)), (h_a1_stitches, .inl (cI, 10, .inl f_9)), (h_a1_wool, .inl (cI, 10, .inl f_10))]) (rest := [.int r_15, .int r_14, .ref h_a1]) (kV ⟨hx, hb, hml, hown, hts⟩ (kX3_numberAt _ h_a0 h_a0_signs i_2 v_a0_count v_a0_signs vc.1) (cwV 1 hts gX7_run_X3_numberAt rfl rfl rfl (by decide +kernel) ⟨(Nat.le_of_ble_eq_true rfl), (Nat.le_of_ble_eq_true rfl)⟩) hK hP hD [5, 6] rfl rfl 0 3 rfl rfl rfl rfl rfl hl.1 (Nat.le_of_ble_eq_true rfl) dX7_run_75 ⟨(Nat.le_of_ble_eq_true rfl), (Nat.le_of_ble_eq_true rfl)⟩) hP hD hS hA [5, 6] [0, 1, 2, 3, 4] rfl rfl rfl rfl (fun r_16 u_ H locs hq_ hP hD hS => ?_)
      replace vc := vc.2 r_16  hq_
      have hP : va_P D vwCl [(h_this, .inr (7, [.int g_4, .int (-6 : Int32), .int (-6 : Int32), .int g_11, .int g_12, .int g_13])), (h_a1, .inr (1, [.int g_5, .int g_6, .int g_7, .ref h_a1_wool, .ref h_a1_stitches, .ref h_a1_place])), (h_a1_place, .inl (cI, 10, .inl f_8)), (h_a1_stitches, .inl (cI, 10, .inl f_9)), (h_a1_wool, .inl (cI, 10, .inl f_10)), (h_a0, .inr (3, [.int v_a0_count, .ref h_a0_signs])), (h_a0_signs, .inl (cI, 60, .inl v_a0_signs))] H := hP
      have hD : va_D A [(h_this, .inr (7, [.int g_4, .int (-6 : Int32), .int (-6 : Int32), .int g_11, .int g_12, .int g_13])), (h_a1, .inr (1, [.int g_5, .int g_6, .int g_7, .ref h_a1_wool, .ref h_a1_stitches, .ref h_a1_place])), (h_a1_place, .inl (cI, 10, .inl f_8)), (h_a1_stitches, .inl (cI, 10, .inl f_9)), (h_a1_wool, .inl (cI, 10, .inl f_10)), (h_a0, .inr (3, [.int v_a0_count, .ref h_a0_signs])), (h_a0_signs, .inl (cI, 60, .inl v_a0_signs))] := hD
      refine kj_i (wr := [(h_this, .inr (7, [.int g_4, .int (-6 : Int32), .int (-6 : Int32), .int g_11, .int g_12, .int g_13])), (h_a0, .inr (3, [.int v_a0_count, .ref h_a0_signs])), (h_a0_signs, .inl (cI, 60, .inl v_a0_signs))]) (rest := []) (kV ⟨hx, hb, hml, hown, hts⟩ (kX1_attempt _ h_a1 h_a1_wool h_a1_stitches h_a1_place r_14 r_15 r_16 g_5 g_6 g_7 f_8 f_9 f_10 vc.1) (cwV 3 hts gX7_run_X1_attempt rfl rfl rfl (by decide +kernel) ⟨(Nat.le_of_ble_eq_true rfl), (Nat.le_of_ble_eq_true rfl)⟩) hK hP hD [1, 2, 3, 4] rfl rfl 0 1 rfl rfl rfl rfl rfl hl.1 (Nat.le_of_ble_eq_true rfl) dX7_run_78 ⟨(Nat.le_of_ble_eq_true rfl), (Nat.le_of_ble_eq_true rfl)⟩) hP hD hS hA [1, 2, 3, 4] [0, 5, 6] rfl rfl rfl rfl (fun r_23 u_ H locs hq_ hP hD hS => ?_)
      obtain ⟨g_17, g_18, g_19, f_20, f_21, f_22⟩ := u_
      replace vc := vc.2 r_23 g_17 g_18 g_19 f_20 f_21 f_22 hq_
      have hP : va_P D vwCl [(h_this, .inr (7, [.int g_4, .int (-6 : Int32), .int (-6 : Int32), .int g_11, .int g_12, .int g_13])), (h_a0, .inr (3, [.int v_a0_count, .ref h_a0_signs])), (h_a0_signs, .inl (cI, 60, .inl v_a0_signs)), (h_a1, .inr (1, [.int g_17, .int g_18, .int g_19, .ref h_a1_wool, .ref h_a1_stitches, .ref h_a1_place])), (h_a1_place, .inl (cI, 10, .inl f_20)), (h_a1_stitches, .inl (cI, 10, .inl f_21)), (h_a1_wool, .inl (cI, 10, .inl f_22))] H := hP
      have hD : va_D A [(h_this, .inr (7, [.int g_4, .int (-6 : Int32), .int (-6 : Int32), .int g_11, .int g_12, .int g_13])), (h_a0, .inr (3, [.int v_a0_count, .ref h_a0_signs])), (h_a0_signs, .inl (cI, 60, .inl v_a0_signs)), (h_a1, .inr (1, [.int g_17, .int g_18, .int g_19, .ref h_a1_wool, .ref h_a1_stitches, .ref h_a1_place])), (h_a1_place, .inl (cI, 10, .inl f_20)), (h_a1_stitches, .inl (cI, 10, .inl f_21)), (h_a1_wool, .inl (cI, 10, .inl f_22))] := hD
      refine lv_istore (lv' := [(7, .int r_23), (6, .int r_15), (5, .int r_14), (0, .ref h_this), (1, .ref h_a0), (2, .ref h_a1), (3, .int i_2), (4, .int i_3)]) hx hb dX7_run_81 hl (by decide) rfl (fun ls hl => ?_)
      refine lv_iload hx hb dX7_run_83 (lv_at hl 0 rfl) ?_
      refine lv_if_eq (tgt := 101) hx hb dX7_run_85 (by decide) (fun c_ => ?_) (fun c_ => ?_)
      · replace vc := vc.1 c_
        refine lv_iload hx hb dX7_run_101 (lv_at hl 2 rfl) ?_
        refine lv_if_ne (tgt := 121) hx hb dX7_run_103 (by decide) (fun c_ => ?_) (fun c_ => ?_)
        · replace vc := vc.1 c_
          refine lv_aload_n hx hb dX7_run_121 rfl (lv_at hl 3 rfl) ?_
          refine lv_dup hx hb dX7_run_122 rfl ?_
          refine va_get (D := D) (ci := 7) (v := .int g_4) (C := RX7) (T := TX7) (N := 6) hx hb hts mcX7_run_X7 hown hK.1 hP 0 rfl rfl 0 (by decide) (hts _ mwX7_run_1) (fun _ h9 => h9) rfl dX7_run_123 ?_
          refine lv_iconst (v := (1 : Int32)) hx hb dX7_run_126 (by decide) ?_
          refine lv_iadd hx hb dX7_run_127 ?_
          refine lv_topi (fun x_24 ex_24 => ?_)
          replace vc := vc x_24 ex_24
          refine va_put (D := D) (ci := 7) (v := .int x_24) (ty := .int) (C := RX7) (T := TX7) (N := 6) hx hb hts mcX7_run_X7 tyX7 tyX7_ok nmX7 hown hK.1 hP hD hS 0 rfl rfl 0 (by decide) (hts _ mwX7_run_1) (fun _ h9 => h9) rfl (by decide +kernel) rfl rfl (Nat.le_of_ble_eq_true rfl) dX7_run_128 (fun H locs hP hD hS => ?_)
          have hP : va_P D vwCl [(h_this, .inr (7, [.int x_24, .int (-6 : Int32), .int (-6 : Int32), .int g_11, .int g_12, .int g_13])), (h_a0, .inr (3, [.int v_a0_count, .ref h_a0_signs])), (h_a0_signs, .inl (cI, 60, .inl v_a0_signs)), (h_a1, .inr (1, [.int g_17, .int g_18, .int g_19, .ref h_a1_wool, .ref h_a1_stitches, .ref h_a1_place])), (h_a1_place, .inl (cI, 10, .inl f_20)), (h_a1_stitches, .inl (cI, 10, .inl f_21)), (h_a1_wool, .inl (cI, 10, .inl f_22))] H := hP
          have hD : va_D A [(h_this, .inr (7, [.int x_24, .int (-6 : Int32), .int (-6 : Int32), .int g_11, .int g_12, .int g_13])), (h_a0, .inr (3, [.int v_a0_count, .ref h_a0_signs])), (h_a0_signs, .inl (cI, 60, .inl v_a0_signs)), (h_a1, .inr (1, [.int g_17, .int g_18, .int g_19, .ref h_a1_wool, .ref h_a1_stitches, .ref h_a1_place])), (h_a1_place, .inl (cI, 10, .inl f_20)), (h_a1_stitches, .inl (cI, 10, .inl f_21)), (h_a1_wool, .inl (cI, 10, .inl f_22))] := hD
          refine lv_iload_n hx hb dX7_run_131 rfl (lv_at hl 6 rfl) ?_
          refine lv_aload_n hx hb dX7_run_132 rfl (lv_at hl 4 rfl) ?_
          refine lv_iload_n hx hb dX7_run_133 rfl (lv_at hl 6 rfl) ?_
          refine kj_i (wr := [(h_this, .inr (7, [.int x_24, .int (-6 : Int32), .int (-6 : Int32), .int g_11, .int g_12, .int g_13])), (h_a1, .inr (1, [.int g_17, .int g_18, .int g_19, .ref h_a1_wool, .ref h_a1_stitches, .ref h_a1_place])), (h_a1_place, .inl (cI, 10, .inl f_20)), (h_a1_stitches, .inl (cI, 10, .inl f_21)), (h_a1_wool, .inl (cI, 10, .inl f_22))]) (rest := [.int i_2]) (kV ⟨hx, hb, hml, hown, hts⟩ (kX3_lengthAt _ h_a0 h_a0_signs i_2 v_a0_count v_a0_signs vc.1) (cwV 1 hts gX7_run_X3_lengthAt rfl rfl rfl (by decide +kernel) ⟨(Nat.le_of_ble_eq_true rfl), (Nat.le_of_ble_eq_true rfl)⟩) hK hP hD [1, 2] rfl rfl 0 3 rfl rfl rfl rfl rfl hl.1 (Nat.le_of_ble_eq_true rfl) dX7_run_134 ⟨(Nat.le_of_ble_eq_true rfl), (Nat.le_of_ble_eq_true rfl)⟩) hP hD hS hA [1, 2] [0, 3, 4, 5, 6] rfl rfl rfl rfl (fun r_25 u_ H locs hq_ hP hD hS => ?_)
          replace vc := vc.2 r_25  hq_
          have hP : va_P D vwCl [(h_this, .inr (7, [.int x_24, .int (-6 : Int32), .int (-6 : Int32), .int g_11, .int g_12, .int g_13])), (h_a1, .inr (1, [.int g_17, .int g_18, .int g_19, .ref h_a1_wool, .ref h_a1_stitches, .ref h_a1_place])), (h_a1_place, .inl (cI, 10, .inl f_20)), (h_a1_stitches, .inl (cI, 10, .inl f_21)), (h_a1_wool, .inl (cI, 10, .inl f_22)), (h_a0, .inr (3, [.int v_a0_count, .ref h_a0_signs])), (h_a0_signs, .inl (cI, 60, .inl v_a0_signs))] H := hP
          have hD : va_D A [(h_this, .inr (7, [.int x_24, .int (-6 : Int32), .int (-6 : Int32), .int g_11, .int g_12, .int g_13])), (h_a1, .inr (1, [.int g_17, .int g_18, .int g_19, .ref h_a1_wool, .ref h_a1_stitches, .ref h_a1_place])), (h_a1_place, .inl (cI, 10, .inl f_20)), (h_a1_stitches, .inl (cI, 10, .inl f_21)), (h_a1_wool, .inl (cI, 10, .inl f_22)), (h_a0, .inr (3, [.int v_a0_count, .ref h_a0_signs])), (h_a0_signs, .inl (cI, 60, .inl v_a0_signs))] := hD
          refine lv_iadd hx hb dX7_run_137 ?_
          refine lv_topi (fun x_26 ex_26 => ?_)
          replace vc := vc x_26 ex_26
          refine lv_istore_n (lv' := [(3, .int x_26), (7, .int r_23), (6, .int r_15), (5, .int r_14), (0, .ref h_this), (1, .ref h_a0), (2, .ref h_a1), (4, .int i_3)]) hx hb dX7_run_138 rfl hl (by decide) rfl (fun ls hl => ?_)
          obtain ⟨x_27, ex_27⟩ : ∃ y_ : Int32, y_ = (i_3 + (1 : Int32)) := ⟨_, rfl⟩
          replace vc := vc x_27 ex_27
          refine lv_iinc (v := x_27) (lv' := [(4, .int x_27), (3, .int x_26), (7, .int r_23), (6, .int r_15), (5, .int r_14), (0, .ref h_this), (1, .ref h_a0), (2, .ref h_a1)]) hx hb dX7_run_139 hl (k := 7) rfl (by rw [ex_27]; rfl) (by decide) rfl (fun ls hl => ?_)
          refine lv_goto (tgt := 39) hx hb dX7_run_142 (by decide) ?_
          obtain ⟨n1_, hlt_, hi_⟩ := vc
          exact ih_1 n1_ (x_26, x_27, x_24, g_17, g_18, g_19, f_20, f_21, f_22, g_11, g_12, g_13) hlt_ hi_ _ _ (hP.sub [0, 5, 6, 1, 2, 3, 4] rfl) (hD.sub [0, 5, 6, 1, 2, 3, 4] rfl rfl) hS ls (lv_sub hl [5, 6, 7, 1, 0] rfl)
        · replace vc := vc.2 c_
          refine lv_aload_n hx hb dX7_run_106 rfl (lv_at hl 5 rfl) ?_
          refine lv_iload hx hb dX7_run_107 (lv_at hl 1 rfl) ?_
          refine kj_i (wr := [(h_this, .inr (7, [.int g_4, .int (-6 : Int32), .int (-6 : Int32), .int g_11, .int g_12, .int g_13])), (h_a0, .inr (3, [.int v_a0_count, .ref h_a0_signs])), (h_a0_signs, .inl (cI, 60, .inl v_a0_signs)), (h_a1_place, .inl (cI, 10, .inl f_20)), (h_a1_stitches, .inl (cI, 10, .inl f_21)), (h_a1_wool, .inl (cI, 10, .inl f_22))]) (rest := []) (kV ⟨hx, hb, hml, hown, hts⟩ (kX1_isThere _ h_a1 h_a1_wool h_a1_stitches h_a1_place r_15 g_17 g_18 g_19 vc.1) (cwV 1 hts gX7_run_X1_isThere rfl rfl rfl (by decide +kernel) ⟨(Nat.le_of_ble_eq_true rfl), (Nat.le_of_ble_eq_true rfl)⟩) hK hP hD [3] rfl rfl 0 1 rfl rfl rfl rfl rfl hl.1 (Nat.le_of_ble_eq_true rfl) dX7_run_109 ⟨(Nat.le_of_ble_eq_true rfl), (Nat.le_of_ble_eq_true rfl)⟩) hP hD hS hA [3] [0, 1, 2, 4, 5, 6] rfl rfl rfl rfl (fun r_28 u_ H locs hq_ hP hD hS => ?_)
          replace vc := vc.2 r_28  hq_
          have hP : va_P D vwCl [(h_this, .inr (7, [.int g_4, .int (-6 : Int32), .int (-6 : Int32), .int g_11, .int g_12, .int g_13])), (h_a0, .inr (3, [.int v_a0_count, .ref h_a0_signs])), (h_a0_signs, .inl (cI, 60, .inl v_a0_signs)), (h_a1_place, .inl (cI, 10, .inl f_20)), (h_a1_stitches, .inl (cI, 10, .inl f_21)), (h_a1_wool, .inl (cI, 10, .inl f_22)), (h_a1, .inr (1, [.int g_17, .int g_18, .int g_19, .ref h_a1_wool, .ref h_a1_stitches, .ref h_a1_place]))] H := hP
          have hD : va_D A [(h_this, .inr (7, [.int g_4, .int (-6 : Int32), .int (-6 : Int32), .int g_11, .int g_12, .int g_13])), (h_a0, .inr (3, [.int v_a0_count, .ref h_a0_signs])), (h_a0_signs, .inl (cI, 60, .inl v_a0_signs)), (h_a1_place, .inl (cI, 10, .inl f_20)), (h_a1_stitches, .inl (cI, 10, .inl f_21)), (h_a1_wool, .inl (cI, 10, .inl f_22)), (h_a1, .inr (1, [.int g_17, .int g_18, .int g_19, .ref h_a1_wool, .ref h_a1_stitches, .ref h_a1_place]))] := hD
          refine lv_if_ne (tgt := 121) hx hb dX7_run_112 (by decide) (fun c_ => ?_) (fun c_ => ?_)
          · replace vc := vc.1 c_
            refine lv_aload_n hx hb dX7_run_121 rfl (lv_at hl 3 rfl) ?_
            refine lv_dup hx hb dX7_run_122 rfl ?_
            refine va_get (D := D) (ci := 7) (v := .int g_4) (C := RX7) (T := TX7) (N := 6) hx hb hts mcX7_run_X7 hown hK.1 hP 0 rfl rfl 0 (by decide) (hts _ mwX7_run_1) (fun _ h9 => h9) rfl dX7_run_123 ?_
            refine lv_iconst (v := (1 : Int32)) hx hb dX7_run_126 (by decide) ?_
            refine lv_iadd hx hb dX7_run_127 ?_
            refine lv_topi (fun x_29 ex_29 => ?_)
            replace vc := vc x_29 ex_29
            refine va_put (D := D) (ci := 7) (v := .int x_29) (ty := .int) (C := RX7) (T := TX7) (N := 6) hx hb hts mcX7_run_X7 tyX7 tyX7_ok nmX7 hown hK.1 hP hD hS 0 rfl rfl 0 (by decide) (hts _ mwX7_run_1) (fun _ h9 => h9) rfl (by decide +kernel) rfl rfl (Nat.le_of_ble_eq_true rfl) dX7_run_128 (fun H locs hP hD hS => ?_)
            have hP : va_P D vwCl [(h_this, .inr (7, [.int x_29, .int (-6 : Int32), .int (-6 : Int32), .int g_11, .int g_12, .int g_13])), (h_a0, .inr (3, [.int v_a0_count, .ref h_a0_signs])), (h_a0_signs, .inl (cI, 60, .inl v_a0_signs)), (h_a1_place, .inl (cI, 10, .inl f_20)), (h_a1_stitches, .inl (cI, 10, .inl f_21)), (h_a1_wool, .inl (cI, 10, .inl f_22)), (h_a1, .inr (1, [.int g_17, .int g_18, .int g_19, .ref h_a1_wool, .ref h_a1_stitches, .ref h_a1_place]))] H := hP
            have hD : va_D A [(h_this, .inr (7, [.int x_29, .int (-6 : Int32), .int (-6 : Int32), .int g_11, .int g_12, .int g_13])), (h_a0, .inr (3, [.int v_a0_count, .ref h_a0_signs])), (h_a0_signs, .inl (cI, 60, .inl v_a0_signs)), (h_a1_place, .inl (cI, 10, .inl f_20)), (h_a1_stitches, .inl (cI, 10, .inl f_21)), (h_a1_wool, .inl (cI, 10, .inl f_22)), (h_a1, .inr (1, [.int g_17, .int g_18, .int g_19, .ref h_a1_wool, .ref h_a1_stitches, .ref h_a1_place]))] := hD
            refine lv_iload_n hx hb dX7_run_131 rfl (lv_at hl 6 rfl) ?_
            refine lv_aload_n hx hb dX7_run_132 rfl (lv_at hl 4 rfl) ?_
            refine lv_iload_n hx hb dX7_run_133 rfl (lv_at hl 6 rfl) ?_
            refine kj_i (wr := [(h_this, .inr (7, [.int x_29, .int (-6 : Int32), .int (-6 : Int32), .int g_11, .int g_12, .int g_13])), (h_a1_place, .inl (cI, 10, .inl f_20)), (h_a1_stitches, .inl (cI, 10, .inl f_21)), (h_a1_wool, .inl (cI, 10, .inl f_22)), (h_a1, .inr (1, [.int g_17, .int g_18, .int g_19, .ref h_a1_wool, .ref h_a1_stitches, .ref h_a1_place]))]) (rest := [.int i_2]) (kV ⟨hx, hb, hml, hown, hts⟩ (kX3_lengthAt _ h_a0 h_a0_signs i_2 v_a0_count v_a0_signs vc.1) (cwV 1 hts gX7_run_X3_lengthAt rfl rfl rfl (by decide +kernel) ⟨(Nat.le_of_ble_eq_true rfl), (Nat.le_of_ble_eq_true rfl)⟩) hK hP hD [1, 2] rfl rfl 0 3 rfl rfl rfl rfl rfl hl.1 (Nat.le_of_ble_eq_true rfl) dX7_run_134 ⟨(Nat.le_of_ble_eq_true rfl), (Nat.le_of_ble_eq_true rfl)⟩) hP hD hS hA [1, 2] [0, 3, 4, 5, 6] rfl rfl rfl rfl (fun r_30 u_ H locs hq_ hP hD hS => ?_)
            replace vc := vc.2 r_30  hq_
            have hP : va_P D vwCl [(h_this, .inr (7, [.int x_29, .int (-6 : Int32), .int (-6 : Int32), .int g_11, .int g_12, .int g_13])), (h_a1_place, .inl (cI, 10, .inl f_20)), (h_a1_stitches, .inl (cI, 10, .inl f_21)), (h_a1_wool, .inl (cI, 10, .inl f_22)), (h_a1, .inr (1, [.int g_17, .int g_18, .int g_19, .ref h_a1_wool, .ref h_a1_stitches, .ref h_a1_place])), (h_a0, .inr (3, [.int v_a0_count, .ref h_a0_signs])), (h_a0_signs, .inl (cI, 60, .inl v_a0_signs))] H := hP
            have hD : va_D A [(h_this, .inr (7, [.int x_29, .int (-6 : Int32), .int (-6 : Int32), .int g_11, .int g_12, .int g_13])), (h_a1_place, .inl (cI, 10, .inl f_20)), (h_a1_stitches, .inl (cI, 10, .inl f_21)), (h_a1_wool, .inl (cI, 10, .inl f_22)), (h_a1, .inr (1, [.int g_17, .int g_18, .int g_19, .ref h_a1_wool, .ref h_a1_stitches, .ref h_a1_place])), (h_a0, .inr (3, [.int v_a0_count, .ref h_a0_signs])), (h_a0_signs, .inl (cI, 60, .inl v_a0_signs))] := hD
            refine lv_iadd hx hb dX7_run_137 ?_
            refine lv_topi (fun x_31 ex_31 => ?_)
            replace vc := vc x_31 ex_31
            refine lv_istore_n (lv' := [(3, .int x_31), (7, .int r_23), (6, .int r_15), (5, .int r_14), (0, .ref h_this), (1, .ref h_a0), (2, .ref h_a1), (4, .int i_3)]) hx hb dX7_run_138 rfl hl (by decide) rfl (fun ls hl => ?_)
            obtain ⟨x_32, ex_32⟩ : ∃ y_ : Int32, y_ = (i_3 + (1 : Int32)) := ⟨_, rfl⟩
            replace vc := vc x_32 ex_32
            refine lv_iinc (v := x_32) (lv' := [(4, .int x_32), (3, .int x_31), (7, .int r_23), (6, .int r_15), (5, .int r_14), (0, .ref h_this), (1, .ref h_a0), (2, .ref h_a1)]) hx hb dX7_run_139 hl (k := 7) rfl (by rw [ex_32]; rfl) (by decide) rfl (fun ls hl => ?_)
            refine lv_goto (tgt := 39) hx hb dX7_run_142 (by decide) ?_
            obtain ⟨n1_, hlt_, hi_⟩ := vc
            exact ih_1 n1_ (x_31, x_32, x_29, g_17, g_18, g_19, f_20, f_21, f_22, g_11, g_12, g_13) hlt_ hi_ _ _ (hP.sub [0, 5, 6, 4, 1, 2, 3] rfl) (hD.sub [0, 5, 6, 4, 1, 2, 3] rfl rfl) hS ls (lv_sub hl [5, 6, 7, 1, 0] rfl)
          · replace vc := vc.2 c_
            refine lv_aload_n hx hb dX7_run_115 rfl (lv_at hl 3 rfl) ?_
            refine lv_iload hx hb dX7_run_116 (lv_at hl 1 rfl) ?_
            refine kj_v (wr := [(h_a0, .inr (3, [.int v_a0_count, .ref h_a0_signs])), (h_a0_signs, .inl (cI, 60, .inl v_a0_signs)), (h_a1_place, .inl (cI, 10, .inl f_20)), (h_a1_stitches, .inl (cI, 10, .inl f_21)), (h_a1_wool, .inl (cI, 10, .inl f_22)), (h_a1, .inr (1, [.int g_17, .int g_18, .int g_19, .ref h_a1_wool, .ref h_a1_stitches, .ref h_a1_place]))]) (rest := []) (kV ⟨hx, hb, hml, hown, hts⟩ (kX7_noteSwept _ h_this r_15 g_4 (-6 : Int32) (-6 : Int32) g_11 g_12 g_13 vc.1) (cwV 1 hts gX7_run_X7_noteSwept rfl rfl rfl (by decide +kernel) ⟨(Nat.le_of_ble_eq_true rfl), (Nat.le_of_ble_eq_true rfl)⟩) hK hP hD [0] rfl rfl 0 7 rfl rfl rfl rfl rfl hl.1 (Nat.le_of_ble_eq_true rfl) dX7_run_118 ⟨(Nat.le_of_ble_eq_true rfl), (Nat.le_of_ble_eq_true rfl)⟩) hP hD hS hA [0] [1, 2, 3, 4, 5, 6] rfl rfl rfl rfl (fun u_ H locs hq_ hP hD hS => ?_)
            obtain ⟨g_33, g_34, g_35⟩ := u_
            replace vc := vc.2  g_33 g_34 g_35 hq_
            refine W.widen (k := 0) (n := 0) (Nat.le_of_ble_eq_true rfl) (Nat.le_of_ble_eq_true rfl) ?_
            have hP : va_P D vwCl [(h_a0, .inr (3, [.int v_a0_count, .ref h_a0_signs])), (h_a0_signs, .inl (cI, 60, .inl v_a0_signs)), (h_a1_place, .inl (cI, 10, .inl f_20)), (h_a1_stitches, .inl (cI, 10, .inl f_21)), (h_a1_wool, .inl (cI, 10, .inl f_22)), (h_a1, .inr (1, [.int g_17, .int g_18, .int g_19, .ref h_a1_wool, .ref h_a1_stitches, .ref h_a1_place])), (h_this, .inr (7, [.int g_4, .int (-6 : Int32), .int (-6 : Int32), .int g_33, .int g_34, .int g_35]))] H := hP
            have hD : va_D A [(h_a0, .inr (3, [.int v_a0_count, .ref h_a0_signs])), (h_a0_signs, .inl (cI, 60, .inl v_a0_signs)), (h_a1_place, .inl (cI, 10, .inl f_20)), (h_a1_stitches, .inl (cI, 10, .inl f_21)), (h_a1_wool, .inl (cI, 10, .inl f_22)), (h_a1, .inr (1, [.int g_17, .int g_18, .int g_19, .ref h_a1_wool, .ref h_a1_stitches, .ref h_a1_place])), (h_this, .inr (7, [.int g_4, .int (-6 : Int32), .int (-6 : Int32), .int g_33, .int g_34, .int g_35]))] := hD
            refine lv_aload_n hx hb dX7_run_121 rfl (lv_at hl 3 rfl) ?_
            refine lv_dup hx hb dX7_run_122 rfl ?_
            refine va_get (D := D) (ci := 7) (v := .int g_4) (C := RX7) (T := TX7) (N := 6) hx hb hts mcX7_run_X7 hown hK.1 hP 6 rfl rfl 0 (by decide) (hts _ mwX7_run_1) (fun _ h9 => h9) rfl dX7_run_123 ?_
            refine lv_iconst (v := (1 : Int32)) hx hb dX7_run_126 (by decide) ?_
            refine lv_iadd hx hb dX7_run_127 ?_
            refine lv_topi (fun x_36 ex_36 => ?_)
            replace vc := vc x_36 ex_36
            refine va_put (D := D) (ci := 7) (v := .int x_36) (ty := .int) (C := RX7) (T := TX7) (N := 6) hx hb hts mcX7_run_X7 tyX7 tyX7_ok nmX7 hown hK.1 hP hD hS 6 rfl rfl 0 (by decide) (hts _ mwX7_run_1) (fun _ h9 => h9) rfl (by decide +kernel) rfl rfl (Nat.le_of_ble_eq_true rfl) dX7_run_128 (fun H locs hP hD hS => ?_)
            have hP : va_P D vwCl [(h_a0, .inr (3, [.int v_a0_count, .ref h_a0_signs])), (h_a0_signs, .inl (cI, 60, .inl v_a0_signs)), (h_a1_place, .inl (cI, 10, .inl f_20)), (h_a1_stitches, .inl (cI, 10, .inl f_21)), (h_a1_wool, .inl (cI, 10, .inl f_22)), (h_a1, .inr (1, [.int g_17, .int g_18, .int g_19, .ref h_a1_wool, .ref h_a1_stitches, .ref h_a1_place])), (h_this, .inr (7, [.int x_36, .int (-6 : Int32), .int (-6 : Int32), .int g_33, .int g_34, .int g_35]))] H := hP
            have hD : va_D A [(h_a0, .inr (3, [.int v_a0_count, .ref h_a0_signs])), (h_a0_signs, .inl (cI, 60, .inl v_a0_signs)), (h_a1_place, .inl (cI, 10, .inl f_20)), (h_a1_stitches, .inl (cI, 10, .inl f_21)), (h_a1_wool, .inl (cI, 10, .inl f_22)), (h_a1, .inr (1, [.int g_17, .int g_18, .int g_19, .ref h_a1_wool, .ref h_a1_stitches, .ref h_a1_place])), (h_this, .inr (7, [.int x_36, .int (-6 : Int32), .int (-6 : Int32), .int g_33, .int g_34, .int g_35]))] := hD
            refine lv_iload_n hx hb dX7_run_131 rfl (lv_at hl 6 rfl) ?_
            refine lv_aload_n hx hb dX7_run_132 rfl (lv_at hl 4 rfl) ?_
            refine lv_iload_n hx hb dX7_run_133 rfl (lv_at hl 6 rfl) ?_
            refine kj_i (wr := [(h_a1_place, .inl (cI, 10, .inl f_20)), (h_a1_stitches, .inl (cI, 10, .inl f_21)), (h_a1_wool, .inl (cI, 10, .inl f_22)), (h_a1, .inr (1, [.int g_17, .int g_18, .int g_19, .ref h_a1_wool, .ref h_a1_stitches, .ref h_a1_place])), (h_this, .inr (7, [.int x_36, .int (-6 : Int32), .int (-6 : Int32), .int g_33, .int g_34, .int g_35]))]) (rest := [.int i_2]) (kV ⟨hx, hb, hml, hown, hts⟩ (kX3_lengthAt _ h_a0 h_a0_signs i_2 v_a0_count v_a0_signs vc.1) (cwV 1 hts gX7_run_X3_lengthAt rfl rfl rfl (by decide +kernel) ⟨(Nat.le_of_ble_eq_true rfl), (Nat.le_of_ble_eq_true rfl)⟩) hK hP hD [0, 1] rfl rfl 0 3 rfl rfl rfl rfl rfl hl.1 (Nat.le_of_ble_eq_true rfl) dX7_run_134 ⟨(Nat.le_of_ble_eq_true rfl), (Nat.le_of_ble_eq_true rfl)⟩) hP hD hS hA [0, 1] [2, 3, 4, 5, 6] rfl rfl rfl rfl (fun r_37 u_ H locs hq_ hP hD hS => ?_)
            replace vc := vc.2 r_37  hq_
            have hP : va_P D vwCl [(h_a1_place, .inl (cI, 10, .inl f_20)), (h_a1_stitches, .inl (cI, 10, .inl f_21)), (h_a1_wool, .inl (cI, 10, .inl f_22)), (h_a1, .inr (1, [.int g_17, .int g_18, .int g_19, .ref h_a1_wool, .ref h_a1_stitches, .ref h_a1_place])), (h_this, .inr (7, [.int x_36, .int (-6 : Int32), .int (-6 : Int32), .int g_33, .int g_34, .int g_35])), (h_a0, .inr (3, [.int v_a0_count, .ref h_a0_signs])), (h_a0_signs, .inl (cI, 60, .inl v_a0_signs))] H := hP
            have hD : va_D A [(h_a1_place, .inl (cI, 10, .inl f_20)), (h_a1_stitches, .inl (cI, 10, .inl f_21)), (h_a1_wool, .inl (cI, 10, .inl f_22)), (h_a1, .inr (1, [.int g_17, .int g_18, .int g_19, .ref h_a1_wool, .ref h_a1_stitches, .ref h_a1_place])), (h_this, .inr (7, [.int x_36, .int (-6 : Int32), .int (-6 : Int32), .int g_33, .int g_34, .int g_35])), (h_a0, .inr (3, [.int v_a0_count, .ref h_a0_signs])), (h_a0_signs, .inl (cI, 60, .inl v_a0_signs))] := hD
            refine lv_iadd hx hb dX7_run_137 ?_
            refine lv_topi (fun x_38 ex_38 => ?_)
            replace vc := vc x_38 ex_38
            refine lv_istore_n (lv' := [(3, .int x_38), (7, .int r_23), (6, .int r_15), (5, .int r_14), (0, .ref h_this), (1, .ref h_a0), (2, .ref h_a1), (4, .int i_3)]) hx hb dX7_run_138 rfl hl (by decide) rfl (fun ls hl => ?_)
            obtain ⟨x_39, ex_39⟩ : ∃ y_ : Int32, y_ = (i_3 + (1 : Int32)) := ⟨_, rfl⟩
            replace vc := vc x_39 ex_39
            refine lv_iinc (v := x_39) (lv' := [(4, .int x_39), (3, .int x_38), (7, .int r_23), (6, .int r_15), (5, .int r_14), (0, .ref h_this), (1, .ref h_a0), (2, .ref h_a1)]) hx hb dX7_run_139 hl (k := 7) rfl (by rw [ex_39]; rfl) (by decide) rfl (fun ls hl => ?_)
            refine lv_goto (tgt := 39) hx hb dX7_run_142 (by decide) ?_
            obtain ⟨n1_, hlt_, hi_⟩ := vc
            exact ih_1 n1_ (x_38, x_39, x_36, g_17, g_18, g_19, f_20, f_21, f_22, g_33, g_34, g_35) hlt_ hi_ _ _ (hP.sub [4, 5, 6, 3, 0, 1, 2] rfl) (hD.sub [4, 5, 6, 3, 0, 1, 2] rfl rfl) hS ls (lv_sub hl [5, 6, 7, 1, 0] rfl)
      · replace vc := vc.2 c_
        refine lv_aload_n hx hb dX7_run_88 rfl (lv_at hl 3 rfl) ?_
        refine lv_iload hx hb dX7_run_89 (lv_at hl 7 rfl) ?_
        refine va_put (D := D) (ci := 7) (v := .int i_3) (ty := .int) (C := RX7) (T := TX7) (N := 6) hx hb hts mcX7_run_X7 tyX7 tyX7_ok nmX7 hown hK.1 hP hD hS 0 rfl rfl 1 (by decide) (hts _ mwX7_run_2) (fun _ h9 => h9) rfl (by decide +kernel) rfl rfl (Nat.le_of_ble_eq_true rfl) dX7_run_91 (fun H locs hP hD hS => ?_)
        have hP : va_P D vwCl [(h_this, .inr (7, [.int g_4, .int i_3, .int (-6 : Int32), .int g_11, .int g_12, .int g_13])), (h_a0, .inr (3, [.int v_a0_count, .ref h_a0_signs])), (h_a0_signs, .inl (cI, 60, .inl v_a0_signs)), (h_a1, .inr (1, [.int g_17, .int g_18, .int g_19, .ref h_a1_wool, .ref h_a1_stitches, .ref h_a1_place])), (h_a1_place, .inl (cI, 10, .inl f_20)), (h_a1_stitches, .inl (cI, 10, .inl f_21)), (h_a1_wool, .inl (cI, 10, .inl f_22))] H := hP
        have hD : va_D A [(h_this, .inr (7, [.int g_4, .int i_3, .int (-6 : Int32), .int g_11, .int g_12, .int g_13])), (h_a0, .inr (3, [.int v_a0_count, .ref h_a0_signs])), (h_a0_signs, .inl (cI, 60, .inl v_a0_signs)), (h_a1, .inr (1, [.int g_17, .int g_18, .int g_19, .ref h_a1_wool, .ref h_a1_stitches, .ref h_a1_place])), (h_a1_place, .inl (cI, 10, .inl f_20)), (h_a1_stitches, .inl (cI, 10, .inl f_21)), (h_a1_wool, .inl (cI, 10, .inl f_22))] := hD
        refine lv_aload_n hx hb dX7_run_94 rfl (lv_at hl 3 rfl) ?_
        refine lv_iload hx hb dX7_run_95 (lv_at hl 0 rfl) ?_
        refine va_put (D := D) (ci := 7) (v := .int r_23) (ty := .int) (C := RX7) (T := TX7) (N := 6) hx hb hts mcX7_run_X7 tyX7 tyX7_ok nmX7 hown hK.1 hP hD hS 0 rfl rfl 2 (by decide) (hts _ mwX7_run_3) (fun _ h9 => h9) rfl (by decide +kernel) rfl rfl (Nat.le_of_ble_eq_true rfl) dX7_run_97 (fun H locs hP hD hS => ?_)
        have hP : va_P D vwCl [(h_this, .inr (7, [.int g_4, .int i_3, .int r_23, .int g_11, .int g_12, .int g_13])), (h_a0, .inr (3, [.int v_a0_count, .ref h_a0_signs])), (h_a0_signs, .inl (cI, 60, .inl v_a0_signs)), (h_a1, .inr (1, [.int g_17, .int g_18, .int g_19, .ref h_a1_wool, .ref h_a1_stitches, .ref h_a1_place])), (h_a1_place, .inl (cI, 10, .inl f_20)), (h_a1_stitches, .inl (cI, 10, .inl f_21)), (h_a1_wool, .inl (cI, 10, .inl f_22))] H := hP
        have hD : va_D A [(h_this, .inr (7, [.int g_4, .int i_3, .int r_23, .int g_11, .int g_12, .int g_13])), (h_a0, .inr (3, [.int v_a0_count, .ref h_a0_signs])), (h_a0_signs, .inl (cI, 60, .inl v_a0_signs)), (h_a1, .inr (1, [.int g_17, .int g_18, .int g_19, .ref h_a1_wool, .ref h_a1_stitches, .ref h_a1_place])), (h_a1_place, .inl (cI, 10, .inl f_20)), (h_a1_stitches, .inl (cI, 10, .inl f_21)), (h_a1_wool, .inl (cI, 10, .inl f_22))] := hD
        exact W.vret hx hb hr (fun t ht hW => ⟨⟨(g_4, i_3, r_23, g_11, g_12, g_13, g_17, g_18, g_19, f_20, f_21, f_22), rfl, vc, QB_mk (hP.sub [0, 1, 2, 3, 4, 5, 6] rfl) (hD.sub [0, 1, 2, 3, 4, 5, 6] rfl rfl) ht⟩, hS.F ht⟩) hS.2.2 dX7_run_100
