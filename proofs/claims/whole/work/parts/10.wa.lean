theorem mwX0_init_1 : Cond.methodLink RX0 3 objectInit ∈ wsX0_init := List.mem_of_getElem? (i := 1) rfl
theorem mwX0_init_2 : Cond.instanceMethod objectInit ∈ wsX0_init := List.mem_of_getElem? (i := 2) rfl
theorem mwX0_init_3 : Cond.code objectInit ⟨#[0xb1]⟩ 1 none ∈ wsX0_init := List.mem_of_getElem? (i := 3) rfl
theorem mwX0_init_4 : Cond.arrayClass .int ∈ wsX0_init := List.mem_of_getElem? (i := 4) rfl
theorem mwX0_init_5 : Cond.fieldLink RX0 9 "HassockSee$Arrangements" "between" "[I" ∈ wsX0_init := List.mem_of_getElem? (i := 5) rfl
theorem mwX0_init_6 : Cond.fieldLink RX0 15 "HassockSee$Arrangements" "rowOf" "[I" ∈ wsX0_init := List.mem_of_getElem? (i := 6) rfl
theorem mwX0_init_7 : Cond.fieldLink RX0 18 "HassockSee$Arrangements" "stitchesOf" "[I" ∈ wsX0_init := List.mem_of_getElem? (i := 7) rfl
theorem mwX0_init_8 : Cond.fieldLink RX0 21 "HassockSee$Arrangements" "parishesOf" "[I" ∈ wsX0_init := List.mem_of_getElem? (i := 8) rfl
theorem mwX0_init_9 : Cond.fieldLink RX0 24 "HassockSee$Arrangements" "weightOf" "[I" ∈ wsX0_init := List.mem_of_getElem? (i := 9) rfl
theorem mcX0_init_X0 : ∀ w ∈ u_ws RX0 TX0 7, w ∈ wsX0_init := fun _ h => (List.mem_cons_of_mem _ (List.mem_append_right _ h))
def KX0_init (l : Launch) (D : va_G) (cI cZ : ClassId) (Q : Int32 → Int32 → (Nat → Int32) → (Nat → Int32) → (Nat → Int32) → (Nat → Int32) → (Nat → Int32) → Prop) : Prop := ∀ (sz : Nat) (h_this : Nat), MV l yX0_init wsX0_init ({ frames := 1, cells := 5, slots := 13412, locals := 30 }) [.ref h_this] D cI cZ sz [(h_this, .inr (0, [.int 0, .int 0, .null, .null, .null, .null, .null]))] (fun (u : Nat × Nat × Nat × Nat × Nat × Int32 × Int32 × (Nat → Int32) × (Nat → Int32) × (Nat → Int32) × (Nat → Int32) × (Nat → Int32)) => Q  (u.2.2.2.2.2.1) (u.2.2.2.2.2.2.1) (u.2.2.2.2.2.2.2.1) (u.2.2.2.2.2.2.2.2.1) (u.2.2.2.2.2.2.2.2.2.1) (u.2.2.2.2.2.2.2.2.2.2.1) (u.2.2.2.2.2.2.2.2.2.2.2)) (fun u => [(h_this, .inr (0, [.int (u.2.2.2.2.2.1), .int (u.2.2.2.2.2.2.1), .ref (u.1), .ref (u.2.1), .ref (u.2.2.1), .ref (u.2.2.2.1), .ref (u.2.2.2.2.1)])), ((u.1), .inl (cI, 100, .inl (u.2.2.2.2.2.2.2.1))), ((u.2.1), .inl (cI, 10240, .inl (u.2.2.2.2.2.2.2.2.1))), ((u.2.2.1), .inl (cI, 1024, .inl (u.2.2.2.2.2.2.2.2.2.1))), ((u.2.2.2.1), .inl (cI, 1024, .inl (u.2.2.2.2.2.2.2.2.2.2.1))), ((u.2.2.2.2.1), .inl (cI, 1024, .inl (u.2.2.2.2.2.2.2.2.2.2.2)))]) 5 13412
set_option maxHeartbeats 4000000 in
set_option maxRecDepth 100000 in
theorem walkX0_init {l : Launch} {D : va_G} {cI cZ : ClassId} {QX0_init : Int32 → Int32 → (Nat → Int32) → (Nat → Int32) → (Nat → Int32) → (Nat → Int32) → (Nat → Int32) → Prop}  (hvc : QX0_init 0 0 (fun _ => 0) (fun _ => 0) (fun _ => 0) (fun _ => 0) (fun _ => 0)) : KX0_init l D cI cZ QX0_init := by
  intro sz h_this 
  have vc := hvc
  clear hvc
  refine Met.ofW (cc := cX0_init) (maxL := 1) (ret := none) (by decide) rfl ?_
  intro p e s m args below meth c s₁ B hml hv
  obtain ⟨rfl, hsz, hP, hK, hD0⟩ := hv
  have hx := B.exec
  have hb := B.bytes
  have hr := B.returns
  have hts := atoms_spec (ws := wsX0_init) B.pre
  have hown : s.vm.findClass RX0 = some m.cls := findClass_of_methodNamed B.named
  have hlocks := B.notSynchronized
  have hin : meth.name = "<init>" := (name_of_methodNamed B.named B.method).1
  subst hsz
  have hD := hD0.self (sz := s.heap.size)
  generalize hAe : va_A [(h_this, .inr (0, [.int 0, .int 0, .null, .null, .null, .null, .null]))] s.heap.size = A at hD ⊢
  have hA : ∀ q : Nat, s.heap.size ≤ q → A q := fun q h => by rw [← hAe]; exact Or.inr h
  have hS : va_S A s.heap s.heap [] := va_S.rf
  have hP : va_P D vwCl [(h_this, .inr (0, [.int 0, .int 0, .null, .null, .null, .null, .null]))] s.heap := hP
  have hl := lv_entry ([.ref h_this]) (n := 1) (Nat.le_of_ble_eq_true rfl)
  rw [lg_entry_eq]
  generalize (lg_sl ([.ref h_this]) ++ List.replicate (1 - (lg_sl ([.ref h_this])).length) Slot.unset).toArray = ls at hl ⊢
  have hl : lv_has ls 1 [(0, .ref h_this)] := hl
  refine lv_aload_n hx hb dX0_init_0 rfl (lv_at hl 0 rfl) ?_
  refine W.objInit hx hb hown (hts _ mwX0_init_1) (hts _ mwX0_init_2) (hts _ mwX0_init_3) rfl (by rw [hml]; exact hl.1) rfl dX0_init_1 (Nat.le_of_ble_eq_true rfl) (Nat.le_of_ble_eq_true rfl) ?_
  refine W.eq (g2 := F0 m 4 ls []) rfl ?_
  refine lv_aload_n hx hb dX0_init_4 rfl (lv_at hl 0 rfl) ?_
  refine lv_bipush (v := (100 : Int32)) hx hb dX0_init_5 (by decide) ?_
  refine va_newa (atype := .int) (ty := .int) (N' := 100) (a0 := (100, .inl (fun _ => 0))) hx hb (hts _ mwX0_init_4) rfl hK.1 hP hD hS hA (fun _ => rfl) (by decide) (by decide) (Nat.le_of_ble_eq_true rfl) (Nat.le_of_ble_eq_true rfl) (Nat.le_of_ble_eq_true rfl) dX0_init_7 (fun q7 cA_ H hK_ hP hD hS => ?_)
  have ecA_ : cI = cA_ := Option.some.inj ((hK.1.2 0 _ rfl).2.symm.trans (hK_.2 2 _ rfl).2)
  subst ecA_
  have hP : va_P D vwCl [(h_this, .inr (0, [.int 0, .int 0, .null, .null, .null, .null, .null])), (q7, .inl (cI, 100, .inl (fun _ => 0)))] H := hP
  have hD : va_D A [(h_this, .inr (0, [.int 0, .int 0, .null, .null, .null, .null, .null])), (q7, .inl (cI, 100, .inl (fun _ => 0)))] := hD
  refine W.widen (k := 1) (n := 100) (Nat.le_of_ble_eq_true rfl) (Nat.le_of_ble_eq_true rfl) ?_
  refine va_putF (D := D) (ci := 0) (v := .ref q7) (ty := .array .int) (C := RX0) (T := TX0) (N := 7) hx hb hts mcX0_init_X0 tyX0 tyX0_ok nmX0 hown hK.1 hP hD hS 0 rfl rfl 2 (by decide) (hts _ mwX0_init_5) (fun _ h9 => h9) rfl hin rfl (by decide +kernel) rfl rfl (Nat.le_of_ble_eq_true rfl) dX0_init_9 (fun H locs hP hD hS => ?_)
  have hP : va_P D vwCl [(h_this, .inr (0, [.int 0, .int 0, .ref q7, .null, .null, .null, .null])), (q7, .inl (cI, 100, .inl (fun _ => 0)))] H := hP
  have hD : va_D A [(h_this, .inr (0, [.int 0, .int 0, .ref q7, .null, .null, .null, .null])), (q7, .inl (cI, 100, .inl (fun _ => 0)))] := hD
  refine lv_aload_n hx hb dX0_init_12 rfl (lv_at hl 0 rfl) ?_
  refine lv_sipush (v := (10240 : Int32)) hx hb dX0_init_13 (by decide) ?_
  refine va_newa (atype := .int) (ty := .int) (N' := 10240) (a0 := (10240, .inl (fun _ => 0))) hx hb (hts _ mwX0_init_4) rfl hK.1 hP hD hS hA (fun _ => rfl) (by decide) (by decide) (Nat.le_of_ble_eq_true rfl) (Nat.le_of_ble_eq_true rfl) (Nat.le_of_ble_eq_true rfl) dX0_init_16 (fun q16 cA_ H hK_ hP hD hS => ?_)
  have ecA_ : cI = cA_ := Option.some.inj ((hK.1.2 0 _ rfl).2.symm.trans (hK_.2 2 _ rfl).2)
  subst ecA_
  have hP : va_P D vwCl [(h_this, .inr (0, [.int 0, .int 0, .ref q7, .null, .null, .null, .null])), (q7, .inl (cI, 100, .inl (fun _ => 0))), (q16, .inl (cI, 10240, .inl (fun _ => 0)))] H := hP
  have hD : va_D A [(h_this, .inr (0, [.int 0, .int 0, .ref q7, .null, .null, .null, .null])), (q7, .inl (cI, 100, .inl (fun _ => 0))), (q16, .inl (cI, 10240, .inl (fun _ => 0)))] := hD
  refine W.widen (k := 2) (n := 10340) (Nat.le_of_ble_eq_true rfl) (Nat.le_of_ble_eq_true rfl) ?_
  refine va_putF (D := D) (ci := 0) (v := .ref q16) (ty := .array .int) (C := RX0) (T := TX0) (N := 7) hx hb hts mcX0_init_X0 tyX0 tyX0_ok nmX0 hown hK.1 hP hD hS 0 rfl rfl 3 (by decide) (hts _ mwX0_init_6) (fun _ h9 => h9) rfl hin rfl (by decide +kernel) rfl rfl (Nat.le_of_ble_eq_true rfl) dX0_init_18 (fun H locs hP hD hS => ?_)
  have hP : va_P D vwCl [(h_this, .inr (0, [.int 0, .int 0, .ref q7, .ref q16, .null, .null, .null])), (q7, .inl (cI, 100, .inl (fun _ => 0))), (q16, .inl (cI, 10240, .inl (fun _ => 0)))] H := hP
  have hD : va_D A [(h_this, .inr (0, [.int 0, .int 0, .ref q7, .ref q16, .null, .null, .null])), (q7, .inl (cI, 100, .inl (fun _ => 0))), (q16, .inl (cI, 10240, .inl (fun _ => 0)))] := hD
  refine lv_aload_n hx hb dX0_init_21 rfl (lv_at hl 0 rfl) ?_
  refine lv_sipush (v := (1024 : Int32)) hx hb dX0_init_22 (by decide) ?_
  refine va_newa (atype := .int) (ty := .int) (N' := 1024) (a0 := (1024, .inl (fun _ => 0))) hx hb (hts _ mwX0_init_4) rfl hK.1 hP hD hS hA (fun _ => rfl) (by decide) (by decide) (Nat.le_of_ble_eq_true rfl) (Nat.le_of_ble_eq_true rfl) (Nat.le_of_ble_eq_true rfl) dX0_init_25 (fun q25 cA_ H hK_ hP hD hS => ?_)
  have ecA_ : cI = cA_ := Option.some.inj ((hK.1.2 0 _ rfl).2.symm.trans (hK_.2 2 _ rfl).2)
  subst ecA_
  have hP : va_P D vwCl [(h_this, .inr (0, [.int 0, .int 0, .ref q7, .ref q16, .null, .null, .null])), (q7, .inl (cI, 100, .inl (fun _ => 0))), (q16, .inl (cI, 10240, .inl (fun _ => 0))), (q25, .inl (cI, 1024, .inl (fun _ => 0)))] H := hP
  have hD : va_D A [(h_this, .inr (0, [.int 0, .int 0, .ref q7, .ref q16, .null, .null, .null])), (q7, .inl (cI, 100, .inl (fun _ => 0))), (q16, .inl (cI, 10240, .inl (fun _ => 0))), (q25, .inl (cI, 1024, .inl (fun _ => 0)))] := hD
  refine W.widen (k := 3) (n := 11364) (Nat.le_of_ble_eq_true rfl) (Nat.le_of_ble_eq_true rfl) ?_
  refine va_putF (D := D) (ci := 0) (v := .ref q25) (ty := .array .int) (C := RX0) (T := TX0) (N := 7) hx hb hts mcX0_init_X0 tyX0 tyX0_ok nmX0 hown hK.1 hP hD hS 0 rfl rfl 4 (by decide) (hts _ mwX0_init_7) (fun _ h9 => h9) rfl hin rfl (by decide +kernel) rfl rfl (Nat.le_of_ble_eq_true rfl) dX0_init_27 (fun H locs hP hD hS => ?_)
  have hP : va_P D vwCl [(h_this, .inr (0, [.int 0, .int 0, .ref q7, .ref q16, .ref q25, .null, .null])), (q7, .inl (cI, 100, .inl (fun _ => 0))), (q16, .inl (cI, 10240, .inl (fun _ => 0))), (q25, .inl (cI, 1024, .inl (fun _ => 0)))] H := hP
  have hD : va_D A [(h_this, .inr (0, [.int 0, .int 0, .ref q7, .ref q16, .ref q25, .null, .null])), (q7, .inl (cI, 100, .inl (fun _ => 0))), (q16, .inl (cI, 10240, .inl (fun _ => 0))), (q25, .inl (cI, 1024, .inl (fun _ => 0)))] := hD
  refine lv_aload_n hx hb dX0_init_30 rfl (lv_at hl 0 rfl) ?_
  refine lv_sipush (v := (1024 : Int32)) hx hb dX0_init_31 (by decide) ?_
  refine va_newa (atype := .int) (ty := .int) (N' := 1024) (a0 := (1024, .inl (fun _ => 0))) hx hb (hts _ mwX0_init_4) rfl hK.1 hP hD hS hA (fun _ => rfl) (by decide) (by decide) (Nat.le_of_ble_eq_true rfl) (Nat.le_of_ble_eq_true rfl) (Nat.le_of_ble_eq_true rfl) dX0_init_34 (fun q34 cA_ H hK_ hP hD hS => ?_)
  have ecA_ : cI = cA_ := Option.some.inj ((hK.1.2 0 _ rfl).2.symm.trans (hK_.2 2 _ rfl).2)
  subst ecA_
  have hP : va_P D vwCl [(h_this, .inr (0, [.int 0, .int 0, .ref q7, .ref q16, .ref q25, .null, .null])), (q7, .inl (cI, 100, .inl (fun _ => 0))), (q16, .inl (cI, 10240, .inl (fun _ => 0))), (q25, .inl (cI, 1024, .inl (fun _ => 0))), (q34, .inl (cI, 1024, .inl (fun _ => 0)))] H := hP
  have hD : va_D A [(h_this, .inr (0, [.int 0, .int 0, .ref q7, .ref q16, .ref q25, .null, .null])), (q7, .inl (cI, 100, .inl (fun _ => 0))), (q16, .inl (cI, 10240, .inl (fun _ => 0))), (q25, .inl (cI, 1024, .inl (fun _ => 0))), (q34, .inl (cI, 1024, .inl (fun _ => 0)))] := hD
  refine W.widen (k := 4) (n := 12388) (Nat.le_of_ble_eq_true rfl) (Nat.le_of_ble_eq_true rfl) ?_
  refine va_putF (D := D) (ci := 0) (v := .ref q34) (ty := .array .int) (C := RX0) (T := TX0) (N := 7) hx hb hts mcX0_init_X0 tyX0 tyX0_ok nmX0 hown hK.1 hP hD hS 0 rfl rfl 5 (by decide) (hts _ mwX0_init_8) (fun _ h9 => h9) rfl hin rfl (by decide +kernel) rfl rfl (Nat.le_of_ble_eq_true rfl) dX0_init_36 (fun H locs hP hD hS => ?_)
  have hP : va_P D vwCl [(h_this, .inr (0, [.int 0, .int 0, .ref q7, .ref q16, .ref q25, .ref q34, .null])), (q7, .inl (cI, 100, .inl (fun _ => 0))), (q16, .inl (cI, 10240, .inl (fun _ => 0))), (q25, .inl (cI, 1024, .inl (fun _ => 0))), (q34, .inl (cI, 1024, .inl (fun _ => 0)))] H := hP
  have hD : va_D A [(h_this, .inr (0, [.int 0, .int 0, .ref q7, .ref q16, .ref q25, .ref q34, .null])), (q7, .inl (cI, 100, .inl (fun _ => 0))), (q16, .inl (cI, 10240, .inl (fun _ => 0))), (q25, .inl (cI, 1024, .inl (fun _ => 0))), (q34, .inl (cI, 1024, .inl (fun _ => 0)))] := hD
  refine lv_aload_n hx hb dX0_init_39 rfl (lv_at hl 0 rfl) ?_
  refine lv_sipush (v := (1024 : Int32)) hx hb dX0_init_40 (by decide) ?_
  refine va_newa (atype := .int) (ty := .int) (N' := 1024) (a0 := (1024, .inl (fun _ => 0))) hx hb (hts _ mwX0_init_4) rfl hK.1 hP hD hS hA (fun _ => rfl) (by decide) (by decide) (Nat.le_of_ble_eq_true rfl) (Nat.le_of_ble_eq_true rfl) (Nat.le_of_ble_eq_true rfl) dX0_init_43 (fun q43 cA_ H hK_ hP hD hS => ?_)
  have ecA_ : cI = cA_ := Option.some.inj ((hK.1.2 0 _ rfl).2.symm.trans (hK_.2 2 _ rfl).2)
  subst ecA_
  have hP : va_P D vwCl [(h_this, .inr (0, [.int 0, .int 0, .ref q7, .ref q16, .ref q25, .ref q34, .null])), (q7, .inl (cI, 100, .inl (fun _ => 0))), (q16, .inl (cI, 10240, .inl (fun _ => 0))), (q25, .inl (cI, 1024, .inl (fun _ => 0))), (q34, .inl (cI, 1024, .inl (fun _ => 0))), (q43, .inl (cI, 1024, .inl (fun _ => 0)))] H := hP
  have hD : va_D A [(h_this, .inr (0, [.int 0, .int 0, .ref q7, .ref q16, .ref q25, .ref q34, .null])), (q7, .inl (cI, 100, .inl (fun _ => 0))), (q16, .inl (cI, 10240, .inl (fun _ => 0))), (q25, .inl (cI, 1024, .inl (fun _ => 0))), (q34, .inl (cI, 1024, .inl (fun _ => 0))), (q43, .inl (cI, 1024, .inl (fun _ => 0)))] := hD
  refine W.widen (k := 5) (n := 13412) (Nat.le_of_ble_eq_true rfl) (Nat.le_of_ble_eq_true rfl) ?_
  refine va_putF (D := D) (ci := 0) (v := .ref q43) (ty := .array .int) (C := RX0) (T := TX0) (N := 7) hx hb hts mcX0_init_X0 tyX0 tyX0_ok nmX0 hown hK.1 hP hD hS 0 rfl rfl 6 (by decide) (hts _ mwX0_init_9) (fun _ h9 => h9) rfl hin rfl (by decide +kernel) rfl rfl (Nat.le_of_ble_eq_true rfl) dX0_init_45 (fun H locs hP hD hS => ?_)
  have hP : va_P D vwCl [(h_this, .inr (0, [.int 0, .int 0, .ref q7, .ref q16, .ref q25, .ref q34, .ref q43])), (q7, .inl (cI, 100, .inl (fun _ => 0))), (q16, .inl (cI, 10240, .inl (fun _ => 0))), (q25, .inl (cI, 1024, .inl (fun _ => 0))), (q34, .inl (cI, 1024, .inl (fun _ => 0))), (q43, .inl (cI, 1024, .inl (fun _ => 0)))] H := hP
  have hD : va_D A [(h_this, .inr (0, [.int 0, .int 0, .ref q7, .ref q16, .ref q25, .ref q34, .ref q43])), (q7, .inl (cI, 100, .inl (fun _ => 0))), (q16, .inl (cI, 10240, .inl (fun _ => 0))), (q25, .inl (cI, 1024, .inl (fun _ => 0))), (q34, .inl (cI, 1024, .inl (fun _ => 0))), (q43, .inl (cI, 1024, .inl (fun _ => 0)))] := hD
  exact W.vret hx hb hr (fun t ht hW => ⟨⟨(q7, q16, q25, q34, q43, 0, 0, (fun _ => 0), (fun _ => 0), (fun _ => 0), (fun _ => 0), (fun _ => 0)), rfl, vc, QB_mk (hP.sub [0, 1, 2, 3, 4, 5] rfl) (hD.sub [0, 1, 2, 3, 4, 5] rfl rfl) ht⟩, hS.F ht⟩) hS.2.2 dX0_init_48

theorem mwJ6_bitCount_0f7a4_1 : Cond.constant RJ6 265 (1431655765) ∈ wsJ6_bitCount_0f7a4 := List.mem_of_getElem? (i := 1) rfl
theorem mwJ6_bitCount_0f7a4_2 : Cond.constant RJ6 266 (858993459) ∈ wsJ6_bitCount_0f7a4 := List.mem_of_getElem? (i := 2) rfl
theorem mwJ6_bitCount_0f7a4_3 : Cond.constant RJ6 267 (252645135) ∈ wsJ6_bitCount_0f7a4 := List.mem_of_getElem? (i := 3) rfl
def KJ6_bitCount_0f7a4 (l : Launch) (D : va_G) (cI cZ : ClassId) (P : Int32 → Prop) (Q : Int32 → Int32 → Prop) : Prop := ∀ (sz : Nat) (p0 : Int32), P p0 → MI l yJ6_bitCount_0f7a4 wsJ6_bitCount_0f7a4 ({ frames := 0, cells := 0, slots := 0, locals := 0 }) [.int p0] D cI cZ sz [] (fun r (u : Unit) => Q p0 r ) (fun u => []) 0 0
set_option maxHeartbeats 4000000 in
set_option maxRecDepth 100000 in
theorem walkJ6_bitCount_0f7a4 {l : Launch} {D : va_G} {cI cZ : ClassId} {PJ6_bitCount_0f7a4 : Int32 → Prop} {QJ6_bitCount_0f7a4 : Int32 → Int32 → Prop}  (hvc : ∀ (p0 : Int32), PJ6_bitCount_0f7a4 p0 → (∀ x_1 : Int32, x_1 = (p0 - (((p0.toUInt32 >>> ((1 : Int32).toUInt32 &&& Int32.toUInt32 31)).toInt32) &&& (1431655765 : Int32))) → (∀ x_2 : Int32, x_2 = ((x_1 &&& (858993459 : Int32)) + (((x_1.toUInt32 >>> ((2 : Int32).toUInt32 &&& Int32.toUInt32 31)).toInt32) &&& (858993459 : Int32))) → (∀ x_3 : Int32, x_3 = ((x_2 + ((x_2.toUInt32 >>> ((4 : Int32).toUInt32 &&& Int32.toUInt32 31)).toInt32)) &&& (252645135 : Int32)) → (∀ x_4 : Int32, x_4 = (x_3 + ((x_3.toUInt32 >>> ((8 : Int32).toUInt32 &&& Int32.toUInt32 31)).toInt32)) → (∀ x_5 : Int32, x_5 = (x_4 + ((x_4.toUInt32 >>> ((16 : Int32).toUInt32 &&& Int32.toUInt32 31)).toInt32)) → (QJ6_bitCount_0f7a4 p0 (x_5 &&& (63 : Int32)) ))))))) : KJ6_bitCount_0f7a4 l D cI cZ PJ6_bitCount_0f7a4 QJ6_bitCount_0f7a4 := by
  intro sz  p0 hpre
  have vc := hvc p0 hpre
  clear hvc
  refine Met.ofW (cc := cJ6_bitCount_0f7a4) (maxL := 1) (ret := (some .int)) (by decide) rfl ?_
  intro p e s m args below meth c s₁ B hml hv
  obtain ⟨rfl, hsz, hP, hK, hD0⟩ := hv
  have hx := B.exec
  have hb := B.bytes
  have hr := B.returns
  have hts := atoms_spec (ws := wsJ6_bitCount_0f7a4) B.pre
  have hown : s.vm.findClass RJ6 = some m.cls := findClass_of_methodNamed B.named
  have hlocks := B.notSynchronized
  subst hsz
  have hD := hD0.self (sz := s.heap.size)
  generalize hAe : va_A [] s.heap.size = A at hD ⊢
  have hA : ∀ q : Nat, s.heap.size ≤ q → A q := fun q h => by rw [← hAe]; exact Or.inr h
  have hS : va_S A s.heap s.heap [] := va_S.rf
  have hP : va_P D vwCl [] s.heap := hP
  have hl := lv_entry ([.int p0]) (n := 1) (Nat.le_of_ble_eq_true rfl)
  rw [lg_entry_eq]
  generalize (lg_sl ([.int p0]) ++ List.replicate (1 - (lg_sl ([.int p0])).length) Slot.unset).toArray = ls at hl ⊢
  have hl : lv_has ls 1 [(0, .int p0)] := hl
  refine lv_iload_n hx hb dJ6_bitCount_0f7a4_0 rfl (lv_at hl 0 rfl) ?_
  refine lv_iload_n hx hb dJ6_bitCount_0f7a4_1 rfl (lv_at hl 0 rfl) ?_
  refine lv_iconst (v := (1 : Int32)) hx hb dJ6_bitCount_0f7a4_2 (by decide) ?_
  refine lv_iushr hx hb dJ6_bitCount_0f7a4_3 rfl ?_
  refine lv_ldcw (v := (1431655765 : Int32)) hx hb hown (hts _ mwJ6_bitCount_0f7a4_1) dJ6_bitCount_0f7a4_4 ?_
  refine lv_iand hx hb dJ6_bitCount_0f7a4_7 ?_
  refine lv_isub hx hb dJ6_bitCount_0f7a4_8 ?_
  refine lv_topi (fun x_1 ex_1 => ?_)
  replace vc := vc x_1 ex_1
  refine lv_istore_n (lv' := [(0, .int x_1)]) hx hb dJ6_bitCount_0f7a4_9 rfl hl (by decide) rfl (fun ls hl => ?_)
  refine lv_iload_n hx hb dJ6_bitCount_0f7a4_10 rfl (lv_at hl 0 rfl) ?_
  refine lv_ldcw (v := (858993459 : Int32)) hx hb hown (hts _ mwJ6_bitCount_0f7a4_2) dJ6_bitCount_0f7a4_11 ?_
  refine lv_iand hx hb dJ6_bitCount_0f7a4_14 ?_
  refine lv_iload_n hx hb dJ6_bitCount_0f7a4_15 rfl (lv_at hl 0 rfl) ?_
  refine lv_iconst (v := (2 : Int32)) hx hb dJ6_bitCount_0f7a4_16 (by decide) ?_
  refine lv_iushr hx hb dJ6_bitCount_0f7a4_17 rfl ?_
  refine lv_ldcw (v := (858993459 : Int32)) hx hb hown (hts _ mwJ6_bitCount_0f7a4_2) dJ6_bitCount_0f7a4_18 ?_
  refine lv_iand hx hb dJ6_bitCount_0f7a4_21 ?_
  refine lv_iadd hx hb dJ6_bitCount_0f7a4_22 ?_
  refine lv_topi (fun x_2 ex_2 => ?_)
  replace vc := vc x_2 ex_2
  refine lv_istore_n (lv' := [(0, .int x_2)]) hx hb dJ6_bitCount_0f7a4_23 rfl hl (by decide) rfl (fun ls hl => ?_)
  refine lv_iload_n hx hb dJ6_bitCount_0f7a4_24 rfl (lv_at hl 0 rfl) ?_
  refine lv_iload_n hx hb dJ6_bitCount_0f7a4_25 rfl (lv_at hl 0 rfl) ?_
  refine lv_iconst (v := (4 : Int32)) hx hb dJ6_bitCount_0f7a4_26 (by decide) ?_
  refine lv_iushr hx hb dJ6_bitCount_0f7a4_27 rfl ?_
  refine lv_iadd hx hb dJ6_bitCount_0f7a4_28 ?_
  refine lv_ldcw (v := (252645135 : Int32)) hx hb hown (hts _ mwJ6_bitCount_0f7a4_3) dJ6_bitCount_0f7a4_29 ?_
  refine lv_iand hx hb dJ6_bitCount_0f7a4_32 ?_
  refine lv_topi (fun x_3 ex_3 => ?_)
  replace vc := vc x_3 ex_3
  refine lv_istore_n (lv' := [(0, .int x_3)]) hx hb dJ6_bitCount_0f7a4_33 rfl hl (by decide) rfl (fun ls hl => ?_)
  refine lv_iload_n hx hb dJ6_bitCount_0f7a4_34 rfl (lv_at hl 0 rfl) ?_
  refine lv_iload_n hx hb dJ6_bitCount_0f7a4_35 rfl (lv_at hl 0 rfl) ?_
  refine lv_bipush (v := (8 : Int32)) hx hb dJ6_bitCount_0f7a4_36 (by decide) ?_
  refine lv_iushr hx hb dJ6_bitCount_0f7a4_38 rfl ?_
  refine lv_iadd hx hb dJ6_bitCount_0f7a4_39 ?_
  refine lv_topi (fun x_4 ex_4 => ?_)
  replace vc := vc x_4 ex_4
  refine lv_istore_n (lv' := [(0, .int x_4)]) hx hb dJ6_bitCount_0f7a4_40 rfl hl (by decide) rfl (fun ls hl => ?_)
  refine lv_iload_n hx hb dJ6_bitCount_0f7a4_41 rfl (lv_at hl 0 rfl) ?_
  refine lv_iload_n hx hb dJ6_bitCount_0f7a4_42 rfl (lv_at hl 0 rfl) ?_
  refine lv_bipush (v := (16 : Int32)) hx hb dJ6_bitCount_0f7a4_43 (by decide) ?_
  refine lv_iushr hx hb dJ6_bitCount_0f7a4_45 rfl ?_
  refine lv_iadd hx hb dJ6_bitCount_0f7a4_46 ?_
  refine lv_topi (fun x_5 ex_5 => ?_)
  replace vc := vc x_5 ex_5
  refine lv_istore_n (lv' := [(0, .int x_5)]) hx hb dJ6_bitCount_0f7a4_47 rfl hl (by decide) rfl (fun ls hl => ?_)
  refine lv_iload_n hx hb dJ6_bitCount_0f7a4_48 rfl (lv_at hl 0 rfl) ?_
  refine lv_bipush (v := (63 : Int32)) hx hb dJ6_bitCount_0f7a4_49 (by decide) ?_
  refine lv_iand hx hb dJ6_bitCount_0f7a4_51 ?_
  exact W.iret (v := (x_5 &&& (63 : Int32))) hx hb hr (fun t ht hW => ⟨⟨(x_5 &&& (63 : Int32)), (), rfl, vc, QB_mk (hP.sub [] rfl) (hD.sub [] rfl rfl) ht⟩, hS.F ht⟩) hS.2.2 dJ6_bitCount_0f7a4_52

theorem mwX0_measureBorders_1 : Cond.fieldLink RX0 9 "HassockSee$Arrangements" "between" "[I" ∈ wsX0_measureBorders := List.mem_of_getElem? (i := 1) rfl
theorem mwX0_measureBorders_2 : Cond.fieldLink RX0 51 "HassockSee$Diocese" "stitches" "[I" ∈ wsX0_measureBorders := List.mem_of_getElem? (i := 2) rfl
theorem mcX0_measureBorders_X0 : ∀ w ∈ u_ws RX0 TX0 7, w ∈ wsX0_measureBorders := fun _ h => (List.mem_cons_of_mem _ (List.mem_append_left _ (List.mem_append_right _ h)))
theorem mcX0_measureBorders_X1 : ∀ w ∈ u_ws RX1 TX1 6, w ∈ wsX0_measureBorders := fun _ h => (List.mem_cons_of_mem _ (List.mem_append_right _ h))
def KX0_measureBorders (l : Launch) (D : va_G) (cI cZ : ClassId) (P : (Nat → Int32) → (Nat → Int32) → Prop) (Q : (Nat → Int32) → (Nat → Int32) → (Nat → Int32) → Prop) : Prop := ∀ (sz : Nat) (h_this h_a0 h_this_between h_this_rowOf h_this_stitchesOf h_this_parishesOf h_this_weightOf h_a0_wool h_a0_stitches h_a0_place : Nat) (v_leastBorders : Int32) (v_firstInRow : Int32) (v_between : (Nat → Int32)) (v_a0_there : Int32) (v_a0_hair : Int32) (v_a0_year : Int32) (v_a0_stitches : (Nat → Int32)), P v_between v_a0_stitches → MV l yX0_measureBorders wsX0_measureBorders ({ frames := 1, cells := 0, slots := 0, locals := 20 }) [.ref h_this, .ref h_a0] D cI cZ sz [(h_this, .inr (0, [.int v_leastBorders, .int v_firstInRow, .ref h_this_between, .ref h_this_rowOf, .ref h_this_stitchesOf, .ref h_this_parishesOf, .ref h_this_weightOf])), (h_this_between, .inl (cI, 100, .inl v_between)), (h_a0, .inr (1, [.int v_a0_there, .int v_a0_hair, .int v_a0_year, .ref h_a0_wool, .ref h_a0_stitches, .ref h_a0_place])), (h_a0_stitches, .inl (cI, 10, .inl v_a0_stitches))] (fun (u : (Nat → Int32)) => Q v_between v_a0_stitches u) (fun u => [(h_this, .inr (0, [.int v_leastBorders, .int v_firstInRow, .ref h_this_between, .ref h_this_rowOf, .ref h_this_stitchesOf, .ref h_this_parishesOf, .ref h_this_weightOf])), (h_this_between, .inl (cI, 100, .inl u)), (h_a0, .inr (1, [.int v_a0_there, .int v_a0_hair, .int v_a0_year, .ref h_a0_wool, .ref h_a0_stitches, .ref h_a0_place])), (h_a0_stitches, .inl (cI, 10, .inl v_a0_stitches))]) 0 0
set_option maxHeartbeats 4000000 in
set_option maxRecDepth 100000 in
theorem walkX0_measureBorders {l : Launch} {D : va_G} {cI cZ : ClassId} {PX0_measureBorders : (Nat → Int32) → (Nat → Int32) → Prop} {QX0_measureBorders : (Nat → Int32) → (Nat → Int32) → (Nat → Int32) → Prop} {PJ6_bitCount_0f7a4 : Int32 → Prop} {QJ6_bitCount_0f7a4 : Int32 → Int32 → Prop} (kJ6_bitCount_0f7a4 : KJ6_bitCount_0f7a4 l D cI cZ PJ6_bitCount_0f7a4 QJ6_bitCount_0f7a4) (IX0_measureBorders_2 : (Nat → Int32) → (Nat → Int32) → Nat → Int32 → (Nat → Int32) → Prop) (IX0_measureBorders_10 : (Nat → Int32) → (Nat → Int32) → Nat → Int32 → Int32 → (Nat → Int32) → Prop) (hvc : ∀ (v_between : (Nat → Int32)) (v_a0_stitches : (Nat → Int32)), PX0_measureBorders v_between v_a0_stitches → ((∃ n0 : Nat, IX0_measureBorders_2 v_between v_a0_stitches n0 (0 : Int32) v_between) ∧ (∀ (n_1 : Nat) (i_2 : Int32) (f_3 : (Nat → Int32)), (IX0_measureBorders_2 v_between v_a0_stitches n_1 i_2 f_3 → (((10 : Int32) ≤ i_2 → (QX0_measureBorders v_between v_a0_stitches f_3)) ∧ (¬ (10 : Int32) ≤ i_2 → ((∃ n0 : Nat, IX0_measureBorders_10 v_between v_a0_stitches n0 i_2 (0 : Int32) f_3) ∧ (∀ (n_4 : Nat) (i_5 : Int32) (f_6 : (Nat → Int32)), (IX0_measureBorders_10 v_between v_a0_stitches n_4 i_2 i_5 f_6 → (((10 : Int32) ≤ i_5 → (∀ x_7 : Int32, x_7 = (i_2 + (1 : Int32)) → (∃ n1 : Nat, n1 < n_1 ∧ IX0_measureBorders_2 v_between v_a0_stitches n1 x_7 f_6))) ∧ (¬ (10 : Int32) ≤ i_5 → (vp_in i_2 10 ∧ (vp_in i_5 10 ∧ (PJ6_bitCount_0f7a4 ((v_a0_stitches (i_2).toNatClampNeg) ^^^ (v_a0_stitches (i_5).toNatClampNeg)) ∧ (∀ r_10 : Int32, QJ6_bitCount_0f7a4 ((v_a0_stitches (i_2).toNatClampNeg) ^^^ (v_a0_stitches (i_5).toNatClampNeg)) r_10 → (vp_in ((i_2 * (10 : Int32)) + i_5) 100 ∧ (∀ x_12 : Int32, x_12 = (i_5 + (1 : Int32)) → (∃ n1 : Nat, n1 < n_4 ∧ IX0_measureBorders_10 v_between v_a0_stitches n1 i_2 x_12 (upd f_6 (((i_2 * (10 : Int32)) + i_5)).toNatClampNeg r_10))))))))))))))))))) : KX0_measureBorders l D cI cZ PX0_measureBorders QX0_measureBorders := by
  intro sz h_this h_a0 h_this_between h_this_rowOf h_this_stitchesOf h_this_parishesOf h_this_weightOf h_a0_wool h_a0_stitches h_a0_place v_leastBorders v_firstInRow v_between v_a0_there v_a0_hair v_a0_year v_a0_stitches hpre
  have vc := hvc v_between v_a0_stitches hpre
  clear hvc
  refine Met.ofW (cc := cX0_measureBorders) (maxL := 4) (ret := none) (by decide) rfl ?_
  intro p e s m args below meth c s₁ B hml hv
  obtain ⟨rfl, hsz, hP, hK, hD0⟩ := hv
  have hx := B.exec
  have hb := B.bytes
  have hr := B.returns
  have hts := atoms_spec (ws := wsX0_measureBorders) B.pre
  have hown : s.vm.findClass RX0 = some m.cls := findClass_of_methodNamed B.named
  have hlocks := B.notSynchronized
  subst hsz
  have hD := hD0.self (sz := s.heap.size)
  generalize hAe : va_A [(h_this, .inr (0, [.int v_leastBorders, .int v_firstInRow, .ref h_this_between, .ref h_this_rowOf, .ref h_this_stitchesOf, .ref h_this_parishesOf, .ref h_this_weightOf])), (h_this_between, .inl (cI, 100, .inl v_between)), (h_a0, .inr (1, [.int v_a0_there, .int v_a0_hair, .int v_a0_year, .ref h_a0_wool, .ref h_a0_stitches, .ref h_a0_place])), (h_a0_stitches, .inl (cI, 10, .inl v_a0_stitches))] s.heap.size = A at hD ⊢
  have hA : ∀ q : Nat, s.heap.size ≤ q → A q := fun q h => by rw [← hAe]; exact Or.inr h
  have hS : va_S A s.heap s.heap [] := va_S.rf
  have hP : va_P D vwCl [(h_this, .inr (0, [.int v_leastBorders, .int v_firstInRow, .ref h_this_between, .ref h_this_rowOf, .ref h_this_stitchesOf, .ref h_this_parishesOf, .ref h_this_weightOf])), (h_this_between, .inl (cI, 100, .inl v_between)), (h_a0, .inr (1, [.int v_a0_there, .int v_a0_hair, .int v_a0_year, .ref h_a0_wool, .ref h_a0_stitches, .ref h_a0_place])), (h_a0_stitches, .inl (cI, 10, .inl v_a0_stitches))] s.heap := hP
  have hl := lv_entry ([.ref h_this, .ref h_a0]) (n := 4) (Nat.le_of_ble_eq_true rfl)
  rw [lg_entry_eq]
  generalize (lg_sl ([.ref h_this, .ref h_a0]) ++ List.replicate (4 - (lg_sl ([.ref h_this, .ref h_a0])).length) Slot.unset).toArray = ls at hl ⊢
  have hl : lv_has ls 4 [(0, .ref h_this), (1, .ref h_a0)] := hl
  refine lv_iconst (v := (0 : Int32)) hx hb dX0_measureBorders_0 (by decide) ?_
  refine lv_istore_n (lv' := [(2, .int (0 : Int32)), (0, .ref h_this), (1, .ref h_a0)]) hx hb dX0_measureBorders_1 rfl hl (by decide) rfl (fun ls hl => ?_)
  obtain ⟨⟨n0_1, hi0_1⟩, vc⟩ := vc
  refine kloop (V := Int32 × (Nat → Int32)) (I := fun n v => IX0_measureBorders_2 v_between v_a0_stitches n (v.1) (v.2)) (wv := fun v => [(h_this, .inr (0, [.int v_leastBorders, .int v_firstInRow, .ref h_this_between, .ref h_this_rowOf, .ref h_this_stitchesOf, .ref h_this_parishesOf, .ref h_this_weightOf])), (h_this_between, .inl (cI, 100, .inl (v.2))), (h_a0, .inr (1, [.int v_a0_there, .int v_a0_hair, .int v_a0_year, .ref h_a0_wool, .ref h_a0_stitches, .ref h_a0_place])), (h_a0_stitches, .inl (cI, 10, .inl v_a0_stitches))]) (lv := fun v => [(0, .ref h_this), (1, .ref h_a0), (2, .int (v.1))]) n0_1 ((0 : Int32), v_between) hi0_1 hP hD hS (lv_sub hl [1, 2, 0] rfl) ?_
  intro n_1 v_1 hi_1 ih_1 H locs hP hD hS ls hl
  obtain ⟨i_2, f_3⟩ := v_1
  replace vc := vc n_1 i_2 f_3 hi_1
  have hP : va_P D vwCl [(h_this, .inr (0, [.int v_leastBorders, .int v_firstInRow, .ref h_this_between, .ref h_this_rowOf, .ref h_this_stitchesOf, .ref h_this_parishesOf, .ref h_this_weightOf])), (h_this_between, .inl (cI, 100, .inl f_3)), (h_a0, .inr (1, [.int v_a0_there, .int v_a0_hair, .int v_a0_year, .ref h_a0_wool, .ref h_a0_stitches, .ref h_a0_place])), (h_a0_stitches, .inl (cI, 10, .inl v_a0_stitches))] H := hP
  have hD : va_D A [(h_this, .inr (0, [.int v_leastBorders, .int v_firstInRow, .ref h_this_between, .ref h_this_rowOf, .ref h_this_stitchesOf, .ref h_this_parishesOf, .ref h_this_weightOf])), (h_this_between, .inl (cI, 100, .inl f_3)), (h_a0, .inr (1, [.int v_a0_there, .int v_a0_hair, .int v_a0_year, .ref h_a0_wool, .ref h_a0_stitches, .ref h_a0_place])), (h_a0_stitches, .inl (cI, 10, .inl v_a0_stitches))] := hD
  have hl : lv_has ls 4 [(0, .ref h_this), (1, .ref h_a0), (2, .int i_2)] := hl
  refine lv_iload_n hx hb dX0_measureBorders_2 rfl (lv_at hl 2 rfl) ?_
  refine lv_bipush (v := (10 : Int32)) hx hb dX0_measureBorders_3 (by decide) ?_
  refine lv_icmp_ge (tgt := 55) hx hb dX0_measureBorders_5 (by decide) (fun c_ => ?_) (fun c_ => ?_)
  · replace vc := vc.1 c_
    exact W.vret hx hb hr (fun t ht hW => ⟨⟨(f_3), rfl, vc, QB_mk (hP.sub [0, 1, 2, 3] rfl) (hD.sub [0, 1, 2, 3] rfl rfl) ht⟩, hS.F ht⟩) hS.2.2 dX0_measureBorders_55
  · replace vc := vc.2 c_
    refine lv_iconst (v := (0 : Int32)) hx hb dX0_measureBorders_8 (by decide) ?_
    refine lv_istore_n (lv' := [(3, .int (0 : Int32)), (0, .ref h_this), (1, .ref h_a0), (2, .int i_2)]) hx hb dX0_measureBorders_9 rfl hl (by decide) rfl (fun ls hl => ?_)
    obtain ⟨⟨n0_4, hi0_4⟩, vc⟩ := vc
    refine kloop (V := Int32 × (Nat → Int32)) (I := fun n v => IX0_measureBorders_10 v_between v_a0_stitches n i_2 (v.1) (v.2)) (wv := fun v => [(h_this, .inr (0, [.int v_leastBorders, .int v_firstInRow, .ref h_this_between, .ref h_this_rowOf, .ref h_this_stitchesOf, .ref h_this_parishesOf, .ref h_this_weightOf])), (h_this_between, .inl (cI, 100, .inl (v.2))), (h_a0, .inr (1, [.int v_a0_there, .int v_a0_hair, .int v_a0_year, .ref h_a0_wool, .ref h_a0_stitches, .ref h_a0_place])), (h_a0_stitches, .inl (cI, 10, .inl v_a0_stitches))]) (lv := fun v => [(0, .ref h_this), (1, .ref h_a0), (2, .int i_2), (3, .int (v.1))]) n0_4 ((0 : Int32), f_3) hi0_4 hP hD hS (lv_sub hl [1, 2, 3, 0] rfl) ?_
    intro n_4 v_4 hi_4 ih_4 H locs hP hD hS ls hl
    obtain ⟨i_5, f_6⟩ := v_4
    replace vc := vc n_4 i_5 f_6 hi_4
    have hP : va_P D vwCl [(h_this, .inr (0, [.int v_leastBorders, .int v_firstInRow, .ref h_this_between, .ref h_this_rowOf, .ref h_this_stitchesOf, .ref h_this_parishesOf, .ref h_this_weightOf])), (h_this_between, .inl (cI, 100, .inl f_6)), (h_a0, .inr (1, [.int v_a0_there, .int v_a0_hair, .int v_a0_year, .ref h_a0_wool, .ref h_a0_stitches, .ref h_a0_place])), (h_a0_stitches, .inl (cI, 10, .inl v_a0_stitches))] H := hP
    have hD : va_D A [(h_this, .inr (0, [.int v_leastBorders, .int v_firstInRow, .ref h_this_between, .ref h_this_rowOf, .ref h_this_stitchesOf, .ref h_this_parishesOf, .ref h_this_weightOf])), (h_this_between, .inl (cI, 100, .inl f_6)), (h_a0, .inr (1, [.int v_a0_there, .int v_a0_hair, .int v_a0_year, .ref h_a0_wool, .ref h_a0_stitches, .ref h_a0_place])), (h_a0_stitches, .inl (cI, 10, .inl v_a0_stitches))] := hD
    have hl : lv_has ls 4 [(0, .ref h_this), (1, .ref h_a0), (2, .int i_2), (3, .int i_5)] := hl
    refine lv_iload_n hx hb dX0_measureBorders_10 rfl (lv_at hl 3 rfl) ?_
    refine lv_bipush (v := (10 : Int32)) hx hb dX0_measureBorders_11 (by decide) ?_
    refine lv_icmp_ge (tgt := 49) hx hb dX0_measureBorders_13 (by decide) (fun c_ => ?_) (fun c_ => ?_)
    · replace vc := vc.1 c_
      obtain ⟨x_7, ex_7⟩ : ∃ y_ : Int32, y_ = (i_2 + (1 : Int32)) := ⟨_, rfl⟩
      replace vc := vc x_7 ex_7
      refine lv_iinc (v := x_7) (lv' := [(2, .int x_7), (0, .ref h_this), (1, .ref h_a0), (3, .int i_5)]) hx hb dX0_measureBorders_49 hl (k := 2) rfl (by rw [ex_7]; rfl) (by decide) rfl (fun ls hl => ?_)
      refine lv_goto (tgt := 2) hx hb dX0_measureBorders_52 (by decide) ?_
      obtain ⟨n1_, hlt_, hi_⟩ := vc
      exact ih_1 n1_ (x_7, f_6) hlt_ hi_ _ _ hP hD hS ls (lv_sub hl [1, 2, 0] rfl)
    · replace vc := vc.2 c_
      refine lv_aload_n hx hb dX0_measureBorders_16 rfl (lv_at hl 0 rfl) ?_
      refine va_get (D := D) (ci := 0) (v := .ref h_this_between) (C := RX0) (T := TX0) (N := 7) hx hb hts mcX0_measureBorders_X0 hown hK.1 hP 0 rfl rfl 2 (by decide) (hts _ mwX0_measureBorders_1) (fun _ h9 => h9) rfl dX0_measureBorders_17 ?_
      refine lv_iload_n hx hb dX0_measureBorders_20 rfl (lv_at hl 2 rfl) ?_
      refine lv_bipush (v := (10 : Int32)) hx hb dX0_measureBorders_21 (by decide) ?_
      refine lv_imul hx hb dX0_measureBorders_23 ?_
      refine lv_iload_n hx hb dX0_measureBorders_24 rfl (lv_at hl 3 rfl) ?_
      refine lv_iadd hx hb dX0_measureBorders_25 ?_
      refine lv_aload_n hx hb dX0_measureBorders_26 rfl (lv_at hl 1 rfl) ?_
      refine va_get (D := D) (ci := 1) (v := .ref h_a0_stitches) (C := RX1) (T := TX1) (N := 6) hx hb hts mcX0_measureBorders_X1 hown hK.1 hP 2 rfl rfl 4 (by decide) (hts _ mwX0_measureBorders_2) (fun _ h9 => h9) rfl dX0_measureBorders_27 ?_
      refine lv_iload_n hx hb dX0_measureBorders_30 rfl (lv_at hl 2 rfl) ?_
      have hi_8 := vc.1
      replace vc := vc.2
      refine va_iald hx hb hK.1 hP 3 0 rfl rfl hi_8 dX0_measureBorders_31 ?_
      refine lv_aload_n hx hb dX0_measureBorders_32 rfl (lv_at hl 1 rfl) ?_
      refine va_get (D := D) (ci := 1) (v := .ref h_a0_stitches) (C := RX1) (T := TX1) (N := 6) hx hb hts mcX0_measureBorders_X1 hown hK.1 hP 2 rfl rfl 4 (by decide) (hts _ mwX0_measureBorders_2) (fun _ h9 => h9) rfl dX0_measureBorders_33 ?_
      refine lv_iload_n hx hb dX0_measureBorders_36 rfl (lv_at hl 3 rfl) ?_
      have hi_9 := vc.1
      replace vc := vc.2
      refine va_iald hx hb hK.1 hP 3 0 rfl rfl hi_9 dX0_measureBorders_37 ?_
      refine lv_ixor hx hb dX0_measureBorders_38 ?_
      refine kj0_i (rest := [.int ((i_2 * (10 : Int32)) + i_5), .ref h_this_between]) (kS ⟨hx, hb, hml, hown, hts⟩ (kJ6_bitCount_0f7a4 _ ((v_a0_stitches (i_2).toNatClampNeg) ^^^ (v_a0_stitches (i_5).toNatClampNeg)) vc.1) (va_cwS 1 hts gX0_measureBorders_J6_bitCount_0f7a4 rfl rfl rfl (by decide +kernel) ⟨(Nat.le_of_ble_eq_true rfl), (Nat.le_of_ble_eq_true rfl)⟩) hK rfl rfl hl.1 (Nat.le_of_ble_eq_true rfl) dX0_measureBorders_39 ⟨(Nat.le_of_ble_eq_true rfl), (Nat.le_of_ble_eq_true rfl)⟩) hP hS hA (fun r_10 H locs hq_ hP hS => ?_)
      replace vc := vc.2 r_10 hq_
      have hP : va_P D vwCl [(h_this, .inr (0, [.int v_leastBorders, .int v_firstInRow, .ref h_this_between, .ref h_this_rowOf, .ref h_this_stitchesOf, .ref h_this_parishesOf, .ref h_this_weightOf])), (h_this_between, .inl (cI, 100, .inl f_6)), (h_a0, .inr (1, [.int v_a0_there, .int v_a0_hair, .int v_a0_year, .ref h_a0_wool, .ref h_a0_stitches, .ref h_a0_place])), (h_a0_stitches, .inl (cI, 10, .inl v_a0_stitches))] H := hP
      have hi_11 := vc.1
      replace vc := vc.2
      refine va_iast hx hb hK.1 hP hD hS 1 0 rfl rfl hi_11 dX0_measureBorders_42 (fun H locs hP hD hS => ?_)
      have hP : va_P D vwCl [(h_this, .inr (0, [.int v_leastBorders, .int v_firstInRow, .ref h_this_between, .ref h_this_rowOf, .ref h_this_stitchesOf, .ref h_this_parishesOf, .ref h_this_weightOf])), (h_this_between, .inl (cI, 100, .inl (upd f_6 (((i_2 * (10 : Int32)) + i_5)).toNatClampNeg r_10))), (h_a0, .inr (1, [.int v_a0_there, .int v_a0_hair, .int v_a0_year, .ref h_a0_wool, .ref h_a0_stitches, .ref h_a0_place])), (h_a0_stitches, .inl (cI, 10, .inl v_a0_stitches))] H := hP
      have hD : va_D A [(h_this, .inr (0, [.int v_leastBorders, .int v_firstInRow, .ref h_this_between, .ref h_this_rowOf, .ref h_this_stitchesOf, .ref h_this_parishesOf, .ref h_this_weightOf])), (h_this_between, .inl (cI, 100, .inl (upd f_6 (((i_2 * (10 : Int32)) + i_5)).toNatClampNeg r_10))), (h_a0, .inr (1, [.int v_a0_there, .int v_a0_hair, .int v_a0_year, .ref h_a0_wool, .ref h_a0_stitches, .ref h_a0_place])), (h_a0_stitches, .inl (cI, 10, .inl v_a0_stitches))] := hD
      obtain ⟨x_12, ex_12⟩ : ∃ y_ : Int32, y_ = (i_5 + (1 : Int32)) := ⟨_, rfl⟩
      replace vc := vc x_12 ex_12
      refine lv_iinc (v := x_12) (lv' := [(3, .int x_12), (0, .ref h_this), (1, .ref h_a0), (2, .int i_2)]) hx hb dX0_measureBorders_43 hl (k := 3) rfl (by rw [ex_12]; rfl) (by decide) rfl (fun ls hl => ?_)
      refine lv_goto (tgt := 10) hx hb dX0_measureBorders_46 (by decide) ?_
      obtain ⟨n1_, hlt_, hi_⟩ := vc
      exact ih_4 n1_ (x_12, (upd f_6 (((i_2 * (10 : Int32)) + i_5)).toNatClampNeg r_10)) hlt_ hi_ _ _ hP hD hS ls (lv_sub hl [1, 2, 3, 0] rfl)

def KX8_isIn (l : Launch) (D : va_G) (cI cZ : ClassId) (P : Int32 → Int32 → Prop) (Q : Int32 → Int32 → Int32 → Prop) : Prop := ∀ (sz : Nat) (p0 : Int32) (p1 : Int32), P p0 p1 → MI l yX8_isIn wsX8_isIn ({ frames := 0, cells := 0, slots := 0, locals := 0 }) [.int p0, .int p1] D cI cZ sz [] (fun r (u : Unit) => Q p0 p1 r ) (fun u => []) 0 0
set_option maxHeartbeats 4000000 in
set_option maxRecDepth 100000 in
theorem walkX8_isIn {l : Launch} {D : va_G} {cI cZ : ClassId} {PX8_isIn : Int32 → Int32 → Prop} {QX8_isIn : Int32 → Int32 → Int32 → Prop}  (hvc : ∀ (p0 : Int32) (p1 : Int32), PX8_isIn p0 p1 → ((¬ ((p0 >>> (p1 &&& 31)) &&& (1 : Int32)) = (1 : Int32) → (QX8_isIn p0 p1 (0 : Int32) )) ∧ (((p0 >>> (p1 &&& 31)) &&& (1 : Int32)) = (1 : Int32) → (QX8_isIn p0 p1 (1 : Int32) )))) : KX8_isIn l D cI cZ PX8_isIn QX8_isIn := by
  intro sz  p0 p1 hpre
  have vc := hvc p0 p1 hpre
  clear hvc
  refine Met.ofW (cc := cX8_isIn) (maxL := 2) (ret := (some .boolean)) (by decide) rfl ?_
  intro p e s m args below meth c s₁ B hml hv
  obtain ⟨rfl, hsz, hP, hK, hD0⟩ := hv
  have hx := B.exec
  have hb := B.bytes
  have hr := B.returns
  have hts := atoms_spec (ws := wsX8_isIn) B.pre
  have hown : s.vm.findClass RX8 = some m.cls := findClass_of_methodNamed B.named
  have hlocks := B.notSynchronized
  subst hsz
  have hD := hD0.self (sz := s.heap.size)
  generalize hAe : va_A [] s.heap.size = A at hD ⊢
  have hA : ∀ q : Nat, s.heap.size ≤ q → A q := fun q h => by rw [← hAe]; exact Or.inr h
  have hS : va_S A s.heap s.heap [] := va_S.rf
  have hP : va_P D vwCl [] s.heap := hP
  have hl := lv_entry ([.int p0, .int p1]) (n := 2) (Nat.le_of_ble_eq_true rfl)
  rw [lg_entry_eq]
  generalize (lg_sl ([.int p0, .int p1]) ++ List.replicate (2 - (lg_sl ([.int p0, .int p1])).length) Slot.unset).toArray = ls at hl ⊢
  have hl : lv_has ls 2 [(0, .int p0), (1, .int p1)] := hl
  refine lv_iload_n hx hb dX8_isIn_0 rfl (lv_at hl 0 rfl) ?_
  refine lv_iload_n hx hb dX8_isIn_1 rfl (lv_at hl 1 rfl) ?_
  refine lv_ishr hx hb dX8_isIn_2 ?_
  refine lv_iconst (v := (1 : Int32)) hx hb dX8_isIn_3 (by decide) ?_
  refine lv_iand hx hb dX8_isIn_4 ?_
  refine lv_iconst (v := (1 : Int32)) hx hb dX8_isIn_5 (by decide) ?_
  refine lv_icmp_ne (tgt := 13) hx hb dX8_isIn_6 (by decide) (fun c_ => ?_) (fun c_ => ?_)
  · replace vc := vc.1 c_
    refine lv_iconst (v := (0 : Int32)) hx hb dX8_isIn_13 (by decide) ?_
    exact W.zret (v := (0 : Int32)) hx hb hr rfl (fun t ht hW => ⟨⟨(0 : Int32), (), rfl, vc, QB_mk (hP.sub [] rfl) (hD.sub [] rfl rfl) ht⟩, hS.F ht⟩) hS.2.2 dX8_isIn_14
  · replace vc := vc.2 c_
    refine lv_iconst (v := (1 : Int32)) hx hb dX8_isIn_9 (by decide) ?_
    refine lv_goto (tgt := 14) hx hb dX8_isIn_10 (by decide) ?_
    exact W.zret (v := (1 : Int32)) hx hb hr rfl (fun t ht hW => ⟨⟨(1 : Int32), (), rfl, vc, QB_mk (hP.sub [] rfl) (hD.sub [] rfl rfl) ht⟩, hS.F ht⟩) hS.2.2 dX8_isIn_14

theorem mwX0_leastRow_1 : Cond.fieldLink RX0 15 "HassockSee$Arrangements" "rowOf" "[I" ∈ wsX0_leastRow := List.mem_of_getElem? (i := 1) rfl
theorem mwX0_leastRow_2 : Cond.fieldLink RX0 9 "HassockSee$Arrangements" "between" "[I" ∈ wsX0_leastRow := List.mem_of_getElem? (i := 2) rfl
theorem mwX0_leastRow_3 : Cond.methodLink RX0 64 Lib.Math.min.name ∈ wsX0_leastRow := List.mem_of_getElem? (i := 3) rfl
theorem mwX0_leastRow_4 : Cond.static Lib.Math.min.name ∈ wsX0_leastRow := List.mem_of_getElem? (i := 4) rfl
theorem mwX0_leastRow_5 : Cond.initialized "java/lang/Math" ∈ wsX0_leastRow := List.mem_of_getElem? (i := 5) rfl
theorem mwX0_leastRow_6 : Cond.code Lib.Math.min.name Lib.Math.min.code 2 (some .int) ∈ wsX0_leastRow := List.mem_of_getElem? (i := 6) rfl
theorem mwX0_leastRow_7 : Cond.static yX8_isIn ∈ wsX0_leastRow := List.mem_of_getElem? (i := 7) rfl
theorem mwX0_leastRow_8 : Cond.initialized RX8 ∈ wsX0_leastRow := List.mem_of_getElem? (i := 8) rfl
theorem mcX0_leastRow_X0 : ∀ w ∈ u_ws RX0 TX0 7, w ∈ wsX0_leastRow := fun _ h => (List.mem_cons_of_mem _ (List.mem_append_right _ h))
def KX0_leastRow (l : Launch) (D : va_G) (cI cZ : ClassId) (P : Int32 → Int32 → (Nat → Int32) → (Nat → Int32) → Prop) (Q : Int32 → Int32 → (Nat → Int32) → (Nat → Int32) → Int32 → Prop) : Prop := ∀ (sz : Nat) (h_this h_this_between h_this_rowOf h_this_stitchesOf h_this_parishesOf h_this_weightOf : Nat) (p0 : Int32) (p1 : Int32) (v_leastBorders : Int32) (v_firstInRow : Int32) (v_between : (Nat → Int32)) (v_rowOf : (Nat → Int32)), P p0 p1 v_between v_rowOf → MI l yX0_leastRow wsX0_leastRow ({ frames := 1, cells := 0, slots := 0, locals := 40 }) [.ref h_this, .int p0, .int p1] D cI cZ sz [(h_this, .inr (0, [.int v_leastBorders, .int v_firstInRow, .ref h_this_between, .ref h_this_rowOf, .ref h_this_stitchesOf, .ref h_this_parishesOf, .ref h_this_weightOf])), (h_this_between, .inl (cI, 100, .inl v_between)), (h_this_rowOf, .inl (cI, 10240, .inl v_rowOf))] (fun r (u : Unit) => Q p0 p1 v_between v_rowOf r ) (fun u => [(h_this, .inr (0, [.int v_leastBorders, .int v_firstInRow, .ref h_this_between, .ref h_this_rowOf, .ref h_this_stitchesOf, .ref h_this_parishesOf, .ref h_this_weightOf])), (h_this_between, .inl (cI, 100, .inl v_between)), (h_this_rowOf, .inl (cI, 10240, .inl v_rowOf))]) 0 0
set_option maxHeartbeats 4000000 in
set_option maxRecDepth 100000 in
theorem walkX0_leastRow {l : Launch} {D : va_G} {cI cZ : ClassId} {PX0_leastRow : Int32 → Int32 → (Nat → Int32) → (Nat → Int32) → Prop} {QX0_leastRow : Int32 → Int32 → (Nat → Int32) → (Nat → Int32) → Int32 → Prop} {PX8_isIn : Int32 → Int32 → Prop} {QX8_isIn : Int32 → Int32 → Int32 → Prop} (kX8_isIn : KX8_isIn l D cI cZ PX8_isIn QX8_isIn) (IX0_leastRow_12 : Int32 → Int32 → (Nat → Int32) → (Nat → Int32) → Nat → Int32 → Int32 → Int32 → Int32 → Prop) (hvc : ∀ (p0 : Int32) (p1 : Int32) (v_between : (Nat → Int32)) (v_rowOf : (Nat → Int32)), PX0_leastRow p0 p1 v_between v_rowOf → ((¬ p0 = 0 → ((∃ n0 : Nat, IX0_leastRow_12 p0 p1 v_between v_rowOf n0 p0 p1 (-6 : Int32) (0 : Int32)) ∧ (∀ (n_1 : Nat) (i_2 : Int32) (i_3 : Int32), (IX0_leastRow_12 p0 p1 v_between v_rowOf n_1 p0 p1 i_3 i_2 → (((10 : Int32) ≤ i_2 → (QX0_leastRow p0 p1 v_between v_rowOf i_3 )) ∧ (¬ (10 : Int32) ≤ i_2 → (PX8_isIn p0 i_2 ∧ (∀ r_4 : Int32, QX8_isIn p0 i_2 r_4 → ((r_4 = 0 → (∀ x_5 : Int32, x_5 = (i_2 + (1 : Int32)) → (∃ n1 : Nat, n1 < n_1 ∧ IX0_leastRow_12 p0 p1 v_between v_rowOf n1 p0 p1 i_3 x_5))) ∧ (¬ r_4 = 0 → (vp_in ((p0 * (10 : Int32)) + i_2) 10240 ∧ (vp_in ((i_2 * (10 : Int32)) + p1) 100 ∧ (∀ x_8 : Int32, x_8 = ((v_rowOf (((p0 * (10 : Int32)) + i_2)).toNatClampNeg) + (v_between (((i_2 * (10 : Int32)) + p1)).toNatClampNeg)) → ((¬ i_3 = (-6 : Int32) → (∀ x_9 : Int32, x_9 = (if x_8 < i_3 then x_8 else i_3) → (∀ x_10 : Int32, x_10 = (i_2 + (1 : Int32)) → (∃ n1 : Nat, n1 < n_1 ∧ IX0_leastRow_12 p0 p1 v_between v_rowOf n1 p0 p1 x_9 x_10)))) ∧ (i_3 = (-6 : Int32) → (∀ x_11 : Int32, x_11 = (i_2 + (1 : Int32)) → (∃ n1 : Nat, n1 < n_1 ∧ IX0_leastRow_12 p0 p1 v_between v_rowOf n1 p0 p1 x_8 x_11))))))))))))))))) ∧ (p0 = 0 → (QX0_leastRow p0 p1 v_between v_rowOf (0 : Int32) )))) : KX0_leastRow l D cI cZ PX0_leastRow QX0_leastRow := by
  intro sz h_this h_this_between h_this_rowOf h_this_stitchesOf h_this_parishesOf h_this_weightOf p0 p1 v_leastBorders v_firstInRow v_between v_rowOf hpre
  have vc := hvc p0 p1 v_between v_rowOf hpre
  clear hvc
  refine Met.ofW (cc := cX0_leastRow) (maxL := 6) (ret := (some .int)) (by decide) rfl ?_
  intro p e s m args below meth c s₁ B hml hv
  obtain ⟨rfl, hsz, hP, hK, hD0⟩ := hv
  have hx := B.exec
  have hb := B.bytes
  have hr := B.returns
  have hts := atoms_spec (ws := wsX0_leastRow) B.pre
  have hown : s.vm.findClass RX0 = some m.cls := findClass_of_methodNamed B.named
  have hlocks := B.notSynchronized
  subst hsz
  have hD := hD0.self (sz := s.heap.size)
  generalize hAe : va_A [(h_this, .inr (0, [.int v_leastBorders, .int v_firstInRow, .ref h_this_between, .ref h_this_rowOf, .ref h_this_stitchesOf, .ref h_this_parishesOf, .ref h_this_weightOf])), (h_this_between, .inl (cI, 100, .inl v_between)), (h_this_rowOf, .inl (cI, 10240, .inl v_rowOf))] s.heap.size = A at hD ⊢
  have hA : ∀ q : Nat, s.heap.size ≤ q → A q := fun q h => by rw [← hAe]; exact Or.inr h
  have hS : va_S A s.heap s.heap [] := va_S.rf
  have hP : va_P D vwCl [(h_this, .inr (0, [.int v_leastBorders, .int v_firstInRow, .ref h_this_between, .ref h_this_rowOf, .ref h_this_stitchesOf, .ref h_this_parishesOf, .ref h_this_weightOf])), (h_this_between, .inl (cI, 100, .inl v_between)), (h_this_rowOf, .inl (cI, 10240, .inl v_rowOf))] s.heap := hP
  have hl := lv_entry ([.ref h_this, .int p0, .int p1]) (n := 6) (Nat.le_of_ble_eq_true rfl)
  rw [lg_entry_eq]
  generalize (lg_sl ([.ref h_this, .int p0, .int p1]) ++ List.replicate (6 - (lg_sl ([.ref h_this, .int p0, .int p1])).length) Slot.unset).toArray = ls at hl ⊢
  have hl : lv_has ls 6 [(0, .ref h_this), (1, .int p0), (2, .int p1)] := hl
  refine lv_iload_n hx hb dX0_leastRow_0 rfl (lv_at hl 1 rfl) ?_
  refine lv_if_ne (tgt := 6) hx hb dX0_leastRow_1 (by decide) (fun c_ => ?_) (fun c_ => ?_)
  · replace vc := vc.1 c_
    refine lv_bipush (v := (-6 : Int32)) hx hb dX0_leastRow_6 (by decide) ?_
    refine lv_istore_n (lv' := [(3, .int (-6 : Int32)), (0, .ref h_this), (1, .int p0), (2, .int p1)]) hx hb dX0_leastRow_8 rfl hl (by decide) rfl (fun ls hl => ?_)
    refine lv_iconst (v := (0 : Int32)) hx hb dX0_leastRow_9 (by decide) ?_
    refine lv_istore (lv' := [(4, .int (0 : Int32)), (3, .int (-6 : Int32)), (0, .ref h_this), (1, .int p0), (2, .int p1)]) hx hb dX0_leastRow_10 hl (by decide) rfl (fun ls hl => ?_)
    obtain ⟨⟨n0_1, hi0_1⟩, vc⟩ := vc
    refine kloop (V := Int32 × Int32) (I := fun n v => IX0_leastRow_12 p0 p1 v_between v_rowOf n p0 p1 (v.2) (v.1)) (wv := fun v => [(h_this, .inr (0, [.int v_leastBorders, .int v_firstInRow, .ref h_this_between, .ref h_this_rowOf, .ref h_this_stitchesOf, .ref h_this_parishesOf, .ref h_this_weightOf])), (h_this_between, .inl (cI, 100, .inl v_between)), (h_this_rowOf, .inl (cI, 10240, .inl v_rowOf))]) (lv := fun v => [(0, .ref h_this), (1, .int p0), (2, .int p1), (3, .int (v.2)), (4, .int (v.1))]) n0_1 ((0 : Int32), (-6 : Int32)) hi0_1 hP hD hS (lv_sub hl [2, 3, 4, 1, 0] rfl) ?_
    intro n_1 v_1 hi_1 ih_1 H locs hP hD hS ls hl
    obtain ⟨i_2, i_3⟩ := v_1
    replace vc := vc n_1 i_2 i_3 hi_1
    have hP : va_P D vwCl [(h_this, .inr (0, [.int v_leastBorders, .int v_firstInRow, .ref h_this_between, .ref h_this_rowOf, .ref h_this_stitchesOf, .ref h_this_parishesOf, .ref h_this_weightOf])), (h_this_between, .inl (cI, 100, .inl v_between)), (h_this_rowOf, .inl (cI, 10240, .inl v_rowOf))] H := hP
    have hD : va_D A [(h_this, .inr (0, [.int v_leastBorders, .int v_firstInRow, .ref h_this_between, .ref h_this_rowOf, .ref h_this_stitchesOf, .ref h_this_parishesOf, .ref h_this_weightOf])), (h_this_between, .inl (cI, 100, .inl v_between)), (h_this_rowOf, .inl (cI, 10240, .inl v_rowOf))] := hD
    have hl : lv_has ls 6 [(0, .ref h_this), (1, .int p0), (2, .int p1), (3, .int i_3), (4, .int i_2)] := hl
    refine lv_iload hx hb dX0_leastRow_12 (lv_at hl 4 rfl) ?_
    refine lv_bipush (v := (10 : Int32)) hx hb dX0_leastRow_14 (by decide) ?_
    refine lv_icmp_ge (tgt := 79) hx hb dX0_leastRow_16 (by decide) (fun c_ => ?_) (fun c_ => ?_)
    · replace vc := vc.1 c_
      refine lv_iload_n hx hb dX0_leastRow_79 rfl (lv_at hl 3 rfl) ?_
      exact W.iret (v := i_3) hx hb hr (fun t ht hW => ⟨⟨i_3, (), rfl, vc, QB_mk (hP.sub [0, 1, 2] rfl) (hD.sub [0, 1, 2] rfl rfl) ht⟩, hS.F ht⟩) hS.2.2 dX0_leastRow_80
    · replace vc := vc.2 c_
      refine lv_iload_n hx hb dX0_leastRow_19 rfl (lv_at hl 1 rfl) ?_
      refine lv_iload hx hb dX0_leastRow_20 (lv_at hl 4 rfl) ?_
      refine kj0_i (rest := []) (kSN ⟨hx, hb, hml, hown, hts⟩ (kX8_isIn _ p0 i_2 vc.1) ⟨va_cnB 2 hts gX0_leastRow_X8_isIn_n47 rfl rfl rfl (KK_n6 hK) (hts _ mwX0_leastRow_8) (by decide +kernel) ⟨(Nat.le_of_ble_eq_true rfl), (Nat.le_of_ble_eq_true rfl)⟩, (hts _ mwX0_leastRow_7), trivial⟩ hK rfl rfl hl.1 (Nat.le_of_ble_eq_true rfl) dX0_leastRow_22 ⟨(Nat.le_of_ble_eq_true rfl), (Nat.le_of_ble_eq_true rfl)⟩) hP hS hA (fun r_4 H locs hq_ hP hS => ?_)
      replace vc := vc.2 r_4 hq_
      have hP : va_P D vwCl [(h_this, .inr (0, [.int v_leastBorders, .int v_firstInRow, .ref h_this_between, .ref h_this_rowOf, .ref h_this_stitchesOf, .ref h_this_parishesOf, .ref h_this_weightOf])), (h_this_between, .inl (cI, 100, .inl v_between)), (h_this_rowOf, .inl (cI, 10240, .inl v_rowOf))] H := hP
      refine lv_if_eq (tgt := 73) hx hb dX0_leastRow_25 (by decide) (fun c_ => ?_) (fun c_ => ?_)
      · replace vc := vc.1 c_
        obtain ⟨x_5, ex_5⟩ : ∃ y_ : Int32, y_ = (i_2 + (1 : Int32)) := ⟨_, rfl⟩
        replace vc := vc x_5 ex_5
        refine lv_iinc (v := x_5) (lv' := [(4, .int x_5), (0, .ref h_this), (1, .int p0), (2, .int p1), (3, .int i_3)]) hx hb dX0_leastRow_73 hl (k := 4) rfl (by rw [ex_5]; rfl) (by decide) rfl (fun ls hl => ?_)
        refine lv_goto (tgt := 12) hx hb dX0_leastRow_76 (by decide) ?_
        obtain ⟨n1_, hlt_, hi_⟩ := vc
        exact ih_1 n1_ (x_5, i_3) hlt_ hi_ _ _ hP hD hS ls (lv_sub hl [1, 2, 3, 4, 0] rfl)
      · replace vc := vc.2 c_
        refine lv_aload_n hx hb dX0_leastRow_28 rfl (lv_at hl 0 rfl) ?_
        refine va_get (D := D) (ci := 0) (v := .ref h_this_rowOf) (C := RX0) (T := TX0) (N := 7) hx hb hts mcX0_leastRow_X0 hown hK.1 hP 0 rfl rfl 3 (by decide) (hts _ mwX0_leastRow_1) (fun _ h9 => h9) rfl dX0_leastRow_29 ?_
        refine lv_iload_n hx hb dX0_leastRow_32 rfl (lv_at hl 1 rfl) ?_
        refine lv_bipush (v := (10 : Int32)) hx hb dX0_leastRow_33 (by decide) ?_
        refine lv_imul hx hb dX0_leastRow_35 ?_
        refine lv_iload hx hb dX0_leastRow_36 (lv_at hl 4 rfl) ?_
        refine lv_iadd hx hb dX0_leastRow_38 ?_
        have hi_6 := vc.1
        replace vc := vc.2
        refine va_iald hx hb hK.1 hP 2 0 rfl rfl hi_6 dX0_leastRow_39 ?_
        refine lv_aload_n hx hb dX0_leastRow_40 rfl (lv_at hl 0 rfl) ?_
        refine va_get (D := D) (ci := 0) (v := .ref h_this_between) (C := RX0) (T := TX0) (N := 7) hx hb hts mcX0_leastRow_X0 hown hK.1 hP 0 rfl rfl 2 (by decide) (hts _ mwX0_leastRow_2) (fun _ h9 => h9) rfl dX0_leastRow_41 ?_
        refine lv_iload hx hb dX0_leastRow_44 (lv_at hl 4 rfl) ?_
        refine lv_bipush (v := (10 : Int32)) hx hb dX0_leastRow_46 (by decide) ?_
        refine lv_imul hx hb dX0_leastRow_48 ?_
        refine lv_iload_n hx hb dX0_leastRow_49 rfl (lv_at hl 2 rfl) ?_
        refine lv_iadd hx hb dX0_leastRow_50 ?_
        have hi_7 := vc.1
        replace vc := vc.2
        refine va_iald hx hb hK.1 hP 1 0 rfl rfl hi_7 dX0_leastRow_51 ?_
        refine lv_iadd hx hb dX0_leastRow_52 ?_
        refine lv_topi (fun x_8 ex_8 => ?_)
        replace vc := vc x_8 ex_8
        refine lv_istore (lv' := [(5, .int x_8), (0, .ref h_this), (1, .int p0), (2, .int p1), (3, .int i_3), (4, .int i_2)]) hx hb dX0_leastRow_53 hl (by decide) rfl (fun ls hl => ?_)
        refine lv_iload_n hx hb dX0_leastRow_55 rfl (lv_at hl 4 rfl) ?_
        refine lv_bipush (v := (-6 : Int32)) hx hb dX0_leastRow_56 (by decide) ?_
        refine lv_icmp_ne (tgt := 66) hx hb dX0_leastRow_58 (by decide) (fun c_ => ?_) (fun c_ => ?_)
        · replace vc := vc.1 c_
          refine lv_iload_n hx hb dX0_leastRow_66 rfl (lv_at hl 4 rfl) ?_
          refine lv_iload hx hb dX0_leastRow_67 (lv_at hl 0 rfl) ?_
          refine va_mmin hx hb (by rw [hml]; exact hl.1.symm) hown (hts _ mwX0_leastRow_3) (hts _ mwX0_leastRow_4) (hts _ mwX0_leastRow_5) (hts _ mwX0_leastRow_6) (Nat.le_of_ble_eq_true rfl) (Nat.le_of_ble_eq_true rfl) (Nat.le_of_ble_eq_true rfl) (Nat.le_of_ble_eq_true rfl) dX0_leastRow_69 ?_
          refine lv_topi (fun x_9 ex_9 => ?_)
          replace vc := vc x_9 ex_9
          refine lv_istore_n (lv' := [(3, .int x_9), (5, .int x_8), (0, .ref h_this), (1, .int p0), (2, .int p1), (4, .int i_2)]) hx hb dX0_leastRow_72 rfl hl (by decide) rfl (fun ls hl => ?_)
          obtain ⟨x_10, ex_10⟩ : ∃ y_ : Int32, y_ = (i_2 + (1 : Int32)) := ⟨_, rfl⟩
          replace vc := vc x_10 ex_10
          refine lv_iinc (v := x_10) (lv' := [(4, .int x_10), (3, .int x_9), (5, .int x_8), (0, .ref h_this), (1, .int p0), (2, .int p1)]) hx hb dX0_leastRow_73 hl (k := 5) rfl (by rw [ex_10]; rfl) (by decide) rfl (fun ls hl => ?_)
          refine lv_goto (tgt := 12) hx hb dX0_leastRow_76 (by decide) ?_
          obtain ⟨n1_, hlt_, hi_⟩ := vc
          exact ih_1 n1_ (x_10, x_9) hlt_ hi_ _ _ hP hD hS ls (lv_sub hl [3, 4, 5, 1, 0] rfl)
        · replace vc := vc.2 c_
          refine lv_iload hx hb dX0_leastRow_61 (lv_at hl 0 rfl) ?_
          refine lv_goto (tgt := 72) hx hb dX0_leastRow_63 (by decide) ?_
          refine lv_istore_n (lv' := [(3, .int x_8), (5, .int x_8), (0, .ref h_this), (1, .int p0), (2, .int p1), (4, .int i_2)]) hx hb dX0_leastRow_72 rfl hl (by decide) rfl (fun ls hl => ?_)
          obtain ⟨x_11, ex_11⟩ : ∃ y_ : Int32, y_ = (i_2 + (1 : Int32)) := ⟨_, rfl⟩
          replace vc := vc x_11 ex_11
          refine lv_iinc (v := x_11) (lv' := [(4, .int x_11), (3, .int x_8), (5, .int x_8), (0, .ref h_this), (1, .int p0), (2, .int p1)]) hx hb dX0_leastRow_73 hl (k := 5) rfl (by rw [ex_11]; rfl) (by decide) rfl (fun ls hl => ?_)
          refine lv_goto (tgt := 12) hx hb dX0_leastRow_76 (by decide) ?_
          obtain ⟨n1_, hlt_, hi_⟩ := vc
          exact ih_1 n1_ (x_11, x_8) hlt_ hi_ _ _ hP hD hS ls (lv_sub hl [3, 4, 5, 1, 0] rfl)
  · replace vc := vc.2 c_
    refine lv_iconst (v := (0 : Int32)) hx hb dX0_leastRow_4 (by decide) ?_
    exact W.iret (v := (0 : Int32)) hx hb hr (fun t ht hW => ⟨⟨(0 : Int32), (), rfl, vc, QB_mk (hP.sub [0, 1, 2] rfl) (hD.sub [0, 1, 2] rfl rfl) ht⟩, hS.F ht⟩) hS.2.2 dX0_leastRow_5

theorem mwX0_rankSet_1 : Cond.fieldLink RX0 15 "HassockSee$Arrangements" "rowOf" "[I" ∈ wsX0_rankSet := List.mem_of_getElem? (i := 1) rfl
theorem mwX0_rankSet_2 : Cond.static yX8_isIn ∈ wsX0_rankSet := List.mem_of_getElem? (i := 2) rfl
theorem mwX0_rankSet_3 : Cond.initialized RX8 ∈ wsX0_rankSet := List.mem_of_getElem? (i := 3) rfl
theorem mcX0_rankSet_X0 : ∀ w ∈ u_ws RX0 TX0 7, w ∈ wsX0_rankSet := fun _ h => (List.mem_cons_of_mem _ (List.mem_append_right _ h))
def KX0_rankSet (l : Launch) (D : va_G) (cI cZ : ClassId) (P : Int32 → (Nat → Int32) → (Nat → Int32) → Prop) (Q : Int32 → (Nat → Int32) → (Nat → Int32) → (Nat → Int32) → Prop) : Prop := ∀ (sz : Nat) (h_this h_this_between h_this_rowOf h_this_stitchesOf h_this_parishesOf h_this_weightOf : Nat) (p0 : Int32) (v_leastBorders : Int32) (v_firstInRow : Int32) (v_between : (Nat → Int32)) (v_rowOf : (Nat → Int32)), P p0 v_between v_rowOf → MV l yX0_rankSet wsX0_rankSet ({ frames := 2, cells := 0, slots := 0, locals := 65 }) [.ref h_this, .int p0] D cI cZ sz [(h_this, .inr (0, [.int v_leastBorders, .int v_firstInRow, .ref h_this_between, .ref h_this_rowOf, .ref h_this_stitchesOf, .ref h_this_parishesOf, .ref h_this_weightOf])), (h_this_between, .inl (cI, 100, .inl v_between)), (h_this_rowOf, .inl (cI, 10240, .inl v_rowOf))] (fun (u : (Nat → Int32)) => Q p0 v_between v_rowOf u) (fun u => [(h_this, .inr (0, [.int v_leastBorders, .int v_firstInRow, .ref h_this_between, .ref h_this_rowOf, .ref h_this_stitchesOf, .ref h_this_parishesOf, .ref h_this_weightOf])), (h_this_between, .inl (cI, 100, .inl v_between)), (h_this_rowOf, .inl (cI, 10240, .inl u))]) 0 0
set_option maxHeartbeats 4000000 in
set_option maxRecDepth 100000 in
theorem walkX0_rankSet {l : Launch} {D : va_G} {cI cZ : ClassId} {PX0_rankSet : Int32 → (Nat → Int32) → (Nat → Int32) → Prop} {QX0_rankSet : Int32 → (Nat → Int32) → (Nat → Int32) → (Nat → Int32) → Prop} {PX8_isIn : Int32 → Int32 → Prop} {QX8_isIn : Int32 → Int32 → Int32 → Prop} {PX0_leastRow : Int32 → Int32 → (Nat → Int32) → (Nat → Int32) → Prop} {QX0_leastRow : Int32 → Int32 → (Nat → Int32) → (Nat → Int32) → Int32 → Prop} (kX8_isIn : KX8_isIn l D cI cZ PX8_isIn QX8_isIn) (kX0_leastRow : KX0_leastRow l D cI cZ PX0_leastRow QX0_leastRow) (IX0_rankSet_2 : Int32 → (Nat → Int32) → (Nat → Int32) → Nat → Int32 → Int32 → (Nat → Int32) → Prop) (hvc : ∀ (p0 : Int32) (v_between : (Nat → Int32)) (v_rowOf : (Nat → Int32)), PX0_rankSet p0 v_between v_rowOf → ((∃ n0 : Nat, IX0_rankSet_2 p0 v_between v_rowOf n0 p0 (0 : Int32) v_rowOf) ∧ (∀ (n_1 : Nat) (i_2 : Int32) (f_3 : (Nat → Int32)), (IX0_rankSet_2 p0 v_between v_rowOf n_1 p0 i_2 f_3 → (((10 : Int32) ≤ i_2 → (QX0_rankSet p0 v_between v_rowOf f_3)) ∧ (¬ (10 : Int32) ≤ i_2 → (PX8_isIn p0 i_2 ∧ (∀ r_4 : Int32, QX8_isIn p0 i_2 r_4 → ((r_4 = 0 → (∀ x_5 : Int32, x_5 = (i_2 + (1 : Int32)) → (∃ n1 : Nat, n1 < n_1 ∧ IX0_rankSet_2 p0 v_between v_rowOf n1 p0 x_5 f_3))) ∧ (¬ r_4 = 0 → (PX0_leastRow (p0 &&& (((1 : Int32) <<< (i_2 &&& 31)) ^^^ (-1 : Int32))) i_2 v_between f_3 ∧ (∀ (r_6 : Int32), QX0_leastRow (p0 &&& (((1 : Int32) <<< (i_2 &&& 31)) ^^^ (-1 : Int32))) i_2 v_between f_3 r_6  → (vp_in ((p0 * (10 : Int32)) + i_2) 10240 ∧ (∀ x_8 : Int32, x_8 = (i_2 + (1 : Int32)) → (∃ n1 : Nat, n1 < n_1 ∧ IX0_rankSet_2 p0 v_between v_rowOf n1 p0 x_8 (upd f_3 (((p0 * (10 : Int32)) + i_2)).toNatClampNeg r_6)))))))))))))))) : KX0_rankSet l D cI cZ PX0_rankSet QX0_rankSet := by
  intro sz h_this h_this_between h_this_rowOf h_this_stitchesOf h_this_parishesOf h_this_weightOf p0 v_leastBorders v_firstInRow v_between v_rowOf hpre
  have vc := hvc p0 v_between v_rowOf hpre
  clear hvc
  refine Met.ofW (cc := cX0_rankSet) (maxL := 3) (ret := none) (by decide) rfl ?_
  intro p e s m args below meth c s₁ B hml hv
  obtain ⟨rfl, hsz, hP, hK, hD0⟩ := hv
  have hx := B.exec
  have hb := B.bytes
  have hr := B.returns
  have hts := atoms_spec (ws := wsX0_rankSet) B.pre
  have hown : s.vm.findClass RX0 = some m.cls := findClass_of_methodNamed B.named
  have hlocks := B.notSynchronized
  subst hsz
  have hD := hD0.self (sz := s.heap.size)
  generalize hAe : va_A [(h_this, .inr (0, [.int v_leastBorders, .int v_firstInRow, .ref h_this_between, .ref h_this_rowOf, .ref h_this_stitchesOf, .ref h_this_parishesOf, .ref h_this_weightOf])), (h_this_between, .inl (cI, 100, .inl v_between)), (h_this_rowOf, .inl (cI, 10240, .inl v_rowOf))] s.heap.size = A at hD ⊢
  have hA : ∀ q : Nat, s.heap.size ≤ q → A q := fun q h => by rw [← hAe]; exact Or.inr h
  have hS : va_S A s.heap s.heap [] := va_S.rf
  have hP : va_P D vwCl [(h_this, .inr (0, [.int v_leastBorders, .int v_firstInRow, .ref h_this_between, .ref h_this_rowOf, .ref h_this_stitchesOf, .ref h_this_parishesOf, .ref h_this_weightOf])), (h_this_between, .inl (cI, 100, .inl v_between)), (h_this_rowOf, .inl (cI, 10240, .inl v_rowOf))] s.heap := hP
  have hl := lv_entry ([.ref h_this, .int p0]) (n := 3) (Nat.le_of_ble_eq_true rfl)
  rw [lg_entry_eq]
  generalize (lg_sl ([.ref h_this, .int p0]) ++ List.replicate (3 - (lg_sl ([.ref h_this, .int p0])).length) Slot.unset).toArray = ls at hl ⊢
  have hl : lv_has ls 3 [(0, .ref h_this), (1, .int p0)] := hl
  refine lv_iconst (v := (0 : Int32)) hx hb dX0_rankSet_0 (by decide) ?_
  refine lv_istore_n (lv' := [(2, .int (0 : Int32)), (0, .ref h_this), (1, .int p0)]) hx hb dX0_rankSet_1 rfl hl (by decide) rfl (fun ls hl => ?_)
  obtain ⟨⟨n0_1, hi0_1⟩, vc⟩ := vc
  refine kloop (V := Int32 × (Nat → Int32)) (I := fun n v => IX0_rankSet_2 p0 v_between v_rowOf n p0 (v.1) (v.2)) (wv := fun v => [(h_this, .inr (0, [.int v_leastBorders, .int v_firstInRow, .ref h_this_between, .ref h_this_rowOf, .ref h_this_stitchesOf, .ref h_this_parishesOf, .ref h_this_weightOf])), (h_this_between, .inl (cI, 100, .inl v_between)), (h_this_rowOf, .inl (cI, 10240, .inl (v.2)))]) (lv := fun v => [(0, .ref h_this), (1, .int p0), (2, .int (v.1))]) n0_1 ((0 : Int32), v_rowOf) hi0_1 hP hD hS (lv_sub hl [1, 2, 0] rfl) ?_
  intro n_1 v_1 hi_1 ih_1 H locs hP hD hS ls hl
  obtain ⟨i_2, f_3⟩ := v_1
  replace vc := vc n_1 i_2 f_3 hi_1
  have hP : va_P D vwCl [(h_this, .inr (0, [.int v_leastBorders, .int v_firstInRow, .ref h_this_between, .ref h_this_rowOf, .ref h_this_stitchesOf, .ref h_this_parishesOf, .ref h_this_weightOf])), (h_this_between, .inl (cI, 100, .inl v_between)), (h_this_rowOf, .inl (cI, 10240, .inl f_3))] H := hP
  have hD : va_D A [(h_this, .inr (0, [.int v_leastBorders, .int v_firstInRow, .ref h_this_between, .ref h_this_rowOf, .ref h_this_stitchesOf, .ref h_this_parishesOf, .ref h_this_weightOf])), (h_this_between, .inl (cI, 100, .inl v_between)), (h_this_rowOf, .inl (cI, 10240, .inl f_3))] := hD
  have hl : lv_has ls 3 [(0, .ref h_this), (1, .int p0), (2, .int i_2)] := hl
  refine lv_iload_n hx hb dX0_rankSet_2 rfl (lv_at hl 2 rfl) ?_
  refine lv_bipush (v := (10 : Int32)) hx hb dX0_rankSet_3 (by decide) ?_
  refine lv_icmp_ge (tgt := 45) hx hb dX0_rankSet_5 (by decide) (fun c_ => ?_) (fun c_ => ?_)
  · replace vc := vc.1 c_
    exact W.vret hx hb hr (fun t ht hW => ⟨⟨(f_3), rfl, vc, QB_mk (hP.sub [0, 1, 2] rfl) (hD.sub [0, 1, 2] rfl rfl) ht⟩, hS.F ht⟩) hS.2.2 dX0_rankSet_45
  · replace vc := vc.2 c_
    refine lv_iload_n hx hb dX0_rankSet_8 rfl (lv_at hl 1 rfl) ?_
    refine lv_iload_n hx hb dX0_rankSet_9 rfl (lv_at hl 2 rfl) ?_
    refine kj0_i (rest := []) (kSN ⟨hx, hb, hml, hown, hts⟩ (kX8_isIn _ p0 i_2 vc.1) ⟨va_cnB 2 hts gX0_rankSet_X8_isIn_n47 rfl rfl rfl (KK_n6 hK) (hts _ mwX0_rankSet_3) (by decide +kernel) ⟨(Nat.le_of_ble_eq_true rfl), (Nat.le_of_ble_eq_true rfl)⟩, (hts _ mwX0_rankSet_2), trivial⟩ hK rfl rfl hl.1 (Nat.le_of_ble_eq_true rfl) dX0_rankSet_10 ⟨(Nat.le_of_ble_eq_true rfl), (Nat.le_of_ble_eq_true rfl)⟩) hP hS hA (fun r_4 H locs hq_ hP hS => ?_)
    replace vc := vc.2 r_4 hq_
    have hP : va_P D vwCl [(h_this, .inr (0, [.int v_leastBorders, .int v_firstInRow, .ref h_this_between, .ref h_this_rowOf, .ref h_this_stitchesOf, .ref h_this_parishesOf, .ref h_this_weightOf])), (h_this_between, .inl (cI, 100, .inl v_between)), (h_this_rowOf, .inl (cI, 10240, .inl f_3))] H := hP
    refine lv_if_eq (tgt := 39) hx hb dX0_rankSet_13 (by decide) (fun c_ => ?_) (fun c_ => ?_)
    · replace vc := vc.1 c_
      obtain ⟨x_5, ex_5⟩ : ∃ y_ : Int32, y_ = (i_2 + (1 : Int32)) := ⟨_, rfl⟩
      replace vc := vc x_5 ex_5
      refine lv_iinc (v := x_5) (lv' := [(2, .int x_5), (0, .ref h_this), (1, .int p0)]) hx hb dX0_rankSet_39 hl (k := 2) rfl (by rw [ex_5]; rfl) (by decide) rfl (fun ls hl => ?_)
      refine lv_goto (tgt := 2) hx hb dX0_rankSet_42 (by decide) ?_
      obtain ⟨n1_, hlt_, hi_⟩ := vc
      exact ih_1 n1_ (x_5, f_3) hlt_ hi_ _ _ hP hD hS ls (lv_sub hl [1, 2, 0] rfl)
    · replace vc := vc.2 c_
      refine lv_aload_n hx hb dX0_rankSet_16 rfl (lv_at hl 0 rfl) ?_
      refine va_get (D := D) (ci := 0) (v := .ref h_this_rowOf) (C := RX0) (T := TX0) (N := 7) hx hb hts mcX0_rankSet_X0 hown hK.1 hP 0 rfl rfl 3 (by decide) (hts _ mwX0_rankSet_1) (fun _ h9 => h9) rfl dX0_rankSet_17 ?_
      refine lv_iload_n hx hb dX0_rankSet_20 rfl (lv_at hl 1 rfl) ?_
      refine lv_bipush (v := (10 : Int32)) hx hb dX0_rankSet_21 (by decide) ?_
      refine lv_imul hx hb dX0_rankSet_23 ?_
      refine lv_iload_n hx hb dX0_rankSet_24 rfl (lv_at hl 2 rfl) ?_
      refine lv_iadd hx hb dX0_rankSet_25 ?_
      refine lv_aload_n hx hb dX0_rankSet_26 rfl (lv_at hl 0 rfl) ?_
      refine lv_iload_n hx hb dX0_rankSet_27 rfl (lv_at hl 1 rfl) ?_
      refine lv_iconst (v := (1 : Int32)) hx hb dX0_rankSet_28 (by decide) ?_
      refine lv_iload_n hx hb dX0_rankSet_29 rfl (lv_at hl 2 rfl) ?_
      refine lv_ishl hx hb dX0_rankSet_30 ?_
      refine lv_iconst (v := (-1 : Int32)) hx hb dX0_rankSet_31 (by decide) ?_
      refine lv_ixor hx hb dX0_rankSet_32 ?_
      refine lv_iand hx hb dX0_rankSet_33 ?_
      refine lv_iload_n hx hb dX0_rankSet_34 rfl (lv_at hl 2 rfl) ?_
      refine kj_i (wr := []) (rest := [.int ((p0 * (10 : Int32)) + i_2), .ref h_this_rowOf]) (kV ⟨hx, hb, hml, hown, hts⟩ (kX0_leastRow _ h_this h_this_between h_this_rowOf h_this_stitchesOf h_this_parishesOf h_this_weightOf (p0 &&& (((1 : Int32) <<< (i_2 &&& 31)) ^^^ (-1 : Int32))) i_2 v_leastBorders v_firstInRow v_between f_3 vc.1) (cwV 2 hts gX0_rankSet_X0_leastRow rfl rfl rfl (by decide +kernel) ⟨(Nat.le_of_ble_eq_true rfl), (Nat.le_of_ble_eq_true rfl)⟩) hK hP hD [0, 1, 2] rfl rfl 0 0 rfl rfl rfl rfl rfl hl.1 (Nat.le_of_ble_eq_true rfl) dX0_rankSet_35 ⟨(Nat.le_of_ble_eq_true rfl), (Nat.le_of_ble_eq_true rfl)⟩) hP hD hS hA [0, 1, 2] [] rfl rfl rfl rfl (fun r_6 u_ H locs hq_ hP hD hS => ?_)
      replace vc := vc.2 r_6  hq_
      have hP : va_P D vwCl [(h_this, .inr (0, [.int v_leastBorders, .int v_firstInRow, .ref h_this_between, .ref h_this_rowOf, .ref h_this_stitchesOf, .ref h_this_parishesOf, .ref h_this_weightOf])), (h_this_between, .inl (cI, 100, .inl v_between)), (h_this_rowOf, .inl (cI, 10240, .inl f_3))] H := hP
      have hD : va_D A [(h_this, .inr (0, [.int v_leastBorders, .int v_firstInRow, .ref h_this_between, .ref h_this_rowOf, .ref h_this_stitchesOf, .ref h_this_parishesOf, .ref h_this_weightOf])), (h_this_between, .inl (cI, 100, .inl v_between)), (h_this_rowOf, .inl (cI, 10240, .inl f_3))] := hD
      have hi_7 := vc.1
      replace vc := vc.2
      refine va_iast hx hb hK.1 hP hD hS 2 0 rfl rfl hi_7 dX0_rankSet_38 (fun H locs hP hD hS => ?_)
      have hP : va_P D vwCl [(h_this, .inr (0, [.int v_leastBorders, .int v_firstInRow, .ref h_this_between, .ref h_this_rowOf, .ref h_this_stitchesOf, .ref h_this_parishesOf, .ref h_this_weightOf])), (h_this_between, .inl (cI, 100, .inl v_between)), (h_this_rowOf, .inl (cI, 10240, .inl (upd f_3 (((p0 * (10 : Int32)) + i_2)).toNatClampNeg r_6)))] H := hP
      have hD : va_D A [(h_this, .inr (0, [.int v_leastBorders, .int v_firstInRow, .ref h_this_between, .ref h_this_rowOf, .ref h_this_stitchesOf, .ref h_this_parishesOf, .ref h_this_weightOf])), (h_this_between, .inl (cI, 100, .inl v_between)), (h_this_rowOf, .inl (cI, 10240, .inl (upd f_3 (((p0 * (10 : Int32)) + i_2)).toNatClampNeg r_6)))] := hD
      obtain ⟨x_8, ex_8⟩ : ∃ y_ : Int32, y_ = (i_2 + (1 : Int32)) := ⟨_, rfl⟩
      replace vc := vc x_8 ex_8
      refine lv_iinc (v := x_8) (lv' := [(2, .int x_8), (0, .ref h_this), (1, .int p0)]) hx hb dX0_rankSet_39 hl (k := 2) rfl (by rw [ex_8]; rfl) (by decide) rfl (fun ls hl => ?_)
      refine lv_goto (tgt := 2) hx hb dX0_rankSet_42 (by decide) ?_
      obtain ⟨n1_, hlt_, hi_⟩ := vc
      exact ih_1 n1_ (x_8, (upd f_3 (((p0 * (10 : Int32)) + i_2)).toNatClampNeg r_6)) hlt_ hi_ _ _ hP hD hS ls (lv_sub hl [1, 2, 0] rfl)

theorem mwX0_rank_1 : Cond.fieldLink RX0 27 "HassockSee$Diocese" "there" "I" ∈ wsX0_rank := List.mem_of_getElem? (i := 1) rfl
theorem mwX0_rank_2 : Cond.fieldLink RX0 41 "HassockSee$Arrangements" "leastBorders" "I" ∈ wsX0_rank := List.mem_of_getElem? (i := 2) rfl
theorem mwX0_rank_3 : Cond.fieldLink RX0 44 "HassockSee$Arrangements" "firstInRow" "I" ∈ wsX0_rank := List.mem_of_getElem? (i := 3) rfl
theorem mwX0_rank_4 : Cond.fieldLink RX0 15 "HassockSee$Arrangements" "rowOf" "[I" ∈ wsX0_rank := List.mem_of_getElem? (i := 4) rfl
theorem mwX0_rank_23 : Cond.static yX8_isIn ∈ wsX0_rank := List.mem_of_getElem? (i := 23) rfl
theorem mwX0_rank_24 : Cond.initialized RX8 ∈ wsX0_rank := List.mem_of_getElem? (i := 24) rfl
theorem mcX0_rank_X0 : ∀ w ∈ u_ws RX0 TX0 7, w ∈ wsX0_rank := fun _ h => (List.mem_cons_of_mem _ (List.mem_append_right _ h))
theorem mcX0_rank_X1 : ∀ w ∈ u_ws RX1 TX1 6, w ∈ wsX0_rank := fun _ h => (List.mem_cons_of_mem _ (List.mem_append_left _ (List.mem_append_right _ h)))
def KX0_rank (l : Launch) (D : va_G) (cI cZ : ClassId) (P : Int32 → Int32 → (Nat → Int32) → (Nat → Int32) → Int32 → (Nat → Int32) → Prop) (Q : Int32 → Int32 → (Nat → Int32) → (Nat → Int32) → Int32 → (Nat → Int32) → Int32 → Int32 → (Nat → Int32) → (Nat → Int32) → Prop) : Prop := ∀ (sz : Nat) (h_this h_a0 h_this_between h_this_rowOf h_this_stitchesOf h_this_parishesOf h_this_weightOf h_a0_wool h_a0_stitches h_a0_place : Nat) (v_leastBorders : Int32) (v_firstInRow : Int32) (v_between : (Nat → Int32)) (v_rowOf : (Nat → Int32)) (v_a0_there : Int32) (v_a0_hair : Int32) (v_a0_year : Int32) (v_a0_stitches : (Nat → Int32)), P v_leastBorders v_firstInRow v_between v_rowOf v_a0_there v_a0_stitches → MV l yX0_rank wsX0_rank ({ frames := 3, cells := 0, slots := 0, locals := 87 }) [.ref h_this, .ref h_a0] D cI cZ sz [(h_this, .inr (0, [.int v_leastBorders, .int v_firstInRow, .ref h_this_between, .ref h_this_rowOf, .ref h_this_stitchesOf, .ref h_this_parishesOf, .ref h_this_weightOf])), (h_this_between, .inl (cI, 100, .inl v_between)), (h_this_rowOf, .inl (cI, 10240, .inl v_rowOf)), (h_a0, .inr (1, [.int v_a0_there, .int v_a0_hair, .int v_a0_year, .ref h_a0_wool, .ref h_a0_stitches, .ref h_a0_place])), (h_a0_stitches, .inl (cI, 10, .inl v_a0_stitches))] (fun (u : Int32 × Int32 × (Nat → Int32) × (Nat → Int32)) => Q v_leastBorders v_firstInRow v_between v_rowOf v_a0_there v_a0_stitches (u.1) (u.2.1) (u.2.2.1) (u.2.2.2)) (fun u => [(h_this, .inr (0, [.int (u.1), .int (u.2.1), .ref h_this_between, .ref h_this_rowOf, .ref h_this_stitchesOf, .ref h_this_parishesOf, .ref h_this_weightOf])), (h_this_between, .inl (cI, 100, .inl (u.2.2.1))), (h_this_rowOf, .inl (cI, 10240, .inl (u.2.2.2))), (h_a0, .inr (1, [.int v_a0_there, .int v_a0_hair, .int v_a0_year, .ref h_a0_wool, .ref h_a0_stitches, .ref h_a0_place])), (h_a0_stitches, .inl (cI, 10, .inl v_a0_stitches))]) 0 0
set_option maxHeartbeats 4000000 in
set_option maxRecDepth 100000 in
theorem walkX0_rank {l : Launch} {D : va_G} {cI cZ : ClassId} {PX0_rank : Int32 → Int32 → (Nat → Int32) → (Nat → Int32) → Int32 → (Nat → Int32) → Prop} {QX0_rank : Int32 → Int32 → (Nat → Int32) → (Nat → Int32) → Int32 → (Nat → Int32) → Int32 → Int32 → (Nat → Int32) → (Nat → Int32) → Prop} {PX0_measureBorders : (Nat → Int32) → (Nat → Int32) → Prop} {QX0_measureBorders : (Nat → Int32) → (Nat → Int32) → (Nat → Int32) → Prop} {PX8_isIn : Int32 → Int32 → Prop} {QX8_isIn : Int32 → Int32 → Int32 → Prop} {PX0_rankSet : Int32 → (Nat → Int32) → (Nat → Int32) → Prop} {QX0_rankSet : Int32 → (Nat → Int32) → (Nat → Int32) → (Nat → Int32) → Prop} (kX0_measureBorders : KX0_measureBorders l D cI cZ PX0_measureBorders QX0_measureBorders) (kX8_isIn : KX8_isIn l D cI cZ PX8_isIn QX8_isIn) (kX0_rankSet : KX0_rankSet l D cI cZ PX0_rankSet QX0_rankSet) (IX0_rank_16 : Int32 → Int32 → (Nat → Int32) → (Nat → Int32) → Int32 → (Nat → Int32) → Nat → Int32 → Int32 → Int32 → Int32 → (Nat → Int32) → (Nat → Int32) → Prop) (IX0_rank_53 : Int32 → Int32 → (Nat → Int32) → (Nat → Int32) → Int32 → (Nat → Int32) → Nat → Int32 → Int32 → Int32 → Int32 → (Nat → Int32) → (Nat → Int32) → Prop) (hvc : ∀ (v_leastBorders : Int32) (v_firstInRow : Int32) (v_between : (Nat → Int32)) (v_rowOf : (Nat → Int32)) (v_a0_there : Int32) (v_a0_stitches : (Nat → Int32)), PX0_rank v_leastBorders v_firstInRow v_between v_rowOf v_a0_there v_a0_stitches → (∀ x_1 : Int32, x_1 = (v_a0_there &&& (1023 : Int32)) → (PX0_measureBorders v_between v_a0_stitches ∧ (∀ (f_2 : (Nat → Int32)), QX0_measureBorders v_between v_a0_stitches f_2 → ((∃ n0 : Nat, IX0_rank_16 v_leastBorders v_firstInRow v_between v_rowOf v_a0_there v_a0_stitches n0 x_1 (1 : Int32) v_leastBorders v_firstInRow f_2 v_rowOf) ∧ (∀ (n_3 : Nat) (i_4 : Int32) (f_5 : (Nat → Int32)), (IX0_rank_16 v_leastBorders v_firstInRow v_between v_rowOf v_a0_there v_a0_stitches n_3 x_1 i_4 v_leastBorders v_firstInRow f_2 f_5 → ((x_1 < i_4 → ((∃ n0 : Nat, IX0_rank_53 v_leastBorders v_firstInRow v_between v_rowOf v_a0_there v_a0_stitches n0 x_1 (0 : Int32) (0 : Int32) (-6 : Int32) f_2 f_5) ∧ (∀ (n_6 : Nat) (i_7 : Int32) (g_8 : Int32) (g_9 : Int32), (IX0_rank_53 v_leastBorders v_firstInRow v_between v_rowOf v_a0_there v_a0_stitches n_6 x_1 i_7 g_8 g_9 f_2 f_5 → (((10 : Int32) ≤ i_7 → (QX0_rank v_leastBorders v_firstInRow v_between v_rowOf v_a0_there v_a0_stitches g_8 g_9 f_2 f_5)) ∧ (¬ (10 : Int32) ≤ i_7 → (PX8_isIn x_1 i_7 ∧ (∀ r_10 : Int32, QX8_isIn x_1 i_7 r_10 → ((r_10 = 0 → (∀ x_11 : Int32, x_11 = (i_7 + (1 : Int32)) → (∃ n1 : Nat, n1 < n_6 ∧ IX0_rank_53 v_leastBorders v_firstInRow v_between v_rowOf v_a0_there v_a0_stitches n1 x_1 x_11 g_8 g_9 f_2 f_5))) ∧ (¬ r_10 = 0 → ((g_9 = (-6 : Int32) → (vp_in ((x_1 * (10 : Int32)) + i_7) 10240 ∧ (∀ x_13 : Int32, x_13 = (f_5 (((x_1 * (10 : Int32)) + i_7)).toNatClampNeg) → (∀ x_14 : Int32, x_14 = (i_7 + (1 : Int32)) → (∃ n1 : Nat, n1 < n_6 ∧ IX0_rank_53 v_leastBorders v_firstInRow v_between v_rowOf v_a0_there v_a0_stitches n1 x_1 x_14 x_13 i_7 f_2 f_5))))) ∧ (¬ g_9 = (-6 : Int32) → (vp_in ((x_1 * (10 : Int32)) + i_7) 10240 ∧ ((g_8 ≤ (f_5 (((x_1 * (10 : Int32)) + i_7)).toNatClampNeg) → (∀ x_16 : Int32, x_16 = (i_7 + (1 : Int32)) → (∃ n1 : Nat, n1 < n_6 ∧ IX0_rank_53 v_leastBorders v_firstInRow v_between v_rowOf v_a0_there v_a0_stitches n1 x_1 x_16 g_8 g_9 f_2 f_5))) ∧ (¬ g_8 ≤ (f_5 (((x_1 * (10 : Int32)) + i_7)).toNatClampNeg) → (vp_in ((x_1 * (10 : Int32)) + i_7) 10240 ∧ (∀ x_18 : Int32, x_18 = (f_5 (((x_1 * (10 : Int32)) + i_7)).toNatClampNeg) → (∀ x_19 : Int32, x_19 = (i_7 + (1 : Int32)) → (∃ n1 : Nat, n1 < n_6 ∧ IX0_rank_53 v_leastBorders v_firstInRow v_between v_rowOf v_a0_there v_a0_stitches n1 x_1 x_19 x_18 i_7 f_2 f_5))))))))))))))))))) ∧ (¬ x_1 < i_4 → ((¬ (i_4 &&& (x_1 ^^^ (-1 : Int32))) = 0 → (∀ x_20 : Int32, x_20 = (i_4 + (1 : Int32)) → (∃ n1 : Nat, n1 < n_3 ∧ IX0_rank_16 v_leastBorders v_firstInRow v_between v_rowOf v_a0_there v_a0_stitches n1 x_1 x_20 v_leastBorders v_firstInRow f_2 f_5))) ∧ ((i_4 &&& (x_1 ^^^ (-1 : Int32))) = 0 → (PX0_rankSet i_4 f_2 f_5 ∧ (∀ (f_21 : (Nat → Int32)), QX0_rankSet i_4 f_2 f_5 f_21 → (∀ x_22 : Int32, x_22 = (i_4 + (1 : Int32)) → (∃ n1 : Nat, n1 < n_3 ∧ IX0_rank_16 v_leastBorders v_firstInRow v_between v_rowOf v_a0_there v_a0_stitches n1 x_1 x_22 v_leastBorders v_firstInRow f_2 f_21))))))))))))))) : KX0_rank l D cI cZ PX0_rank QX0_rank := by
  intro sz h_this h_a0 h_this_between h_this_rowOf h_this_stitchesOf h_this_parishesOf h_this_weightOf h_a0_wool h_a0_stitches h_a0_place v_leastBorders v_firstInRow v_between v_rowOf v_a0_there v_a0_hair v_a0_year v_a0_stitches hpre
  have vc := hvc v_leastBorders v_firstInRow v_between v_rowOf v_a0_there v_a0_stitches hpre
  clear hvc
  refine Met.ofW (cc := cX0_rank) (maxL := 4) (ret := none) (by decide) rfl ?_
  intro p e s m args below meth c s₁ B hml hv
  obtain ⟨rfl, hsz, hP, hK, hD0⟩ := hv
  have hx := B.exec
  have hb := B.bytes
  have hr := B.returns
  have hts := atoms_spec (ws := wsX0_rank) B.pre
  have hown : s.vm.findClass RX0 = some m.cls := findClass_of_methodNamed B.named
  have hlocks := B.notSynchronized
  subst hsz
  have hD := hD0.self (sz := s.heap.size)
  generalize hAe : va_A [(h_this, .inr (0, [.int v_leastBorders, .int v_firstInRow, .ref h_this_between, .ref h_this_rowOf, .ref h_this_stitchesOf, .ref h_this_parishesOf, .ref h_this_weightOf])), (h_this_between, .inl (cI, 100, .inl v_between)), (h_this_rowOf, .inl (cI, 10240, .inl v_rowOf)), (h_a0, .inr (1, [.int v_a0_there, .int v_a0_hair, .int v_a0_year, .ref h_a0_wool, .ref h_a0_stitches, .ref h_a0_place])), (h_a0_stitches, .inl (cI, 10, .inl v_a0_stitches))] s.heap.size = A at hD ⊢
  have hA : ∀ q : Nat, s.heap.size ≤ q → A q := fun q h => by rw [← hAe]; exact Or.inr h
  have hS : va_S A s.heap s.heap [] := va_S.rf
  have hP : va_P D vwCl [(h_this, .inr (0, [.int v_leastBorders, .int v_firstInRow, .ref h_this_between, .ref h_this_rowOf, .ref h_this_stitchesOf, .ref h_this_parishesOf, .ref h_this_weightOf])), (h_this_between, .inl (cI, 100, .inl v_between)), (h_this_rowOf, .inl (cI, 10240, .inl v_rowOf)), (h_a0, .inr (1, [.int v_a0_there, .int v_a0_hair, .int v_a0_year, .ref h_a0_wool, .ref h_a0_stitches, .ref h_a0_place])), (h_a0_stitches, .inl (cI, 10, .inl v_a0_stitches))] s.heap := hP
  have hl := lv_entry ([.ref h_this, .ref h_a0]) (n := 4) (Nat.le_of_ble_eq_true rfl)
  rw [lg_entry_eq]
  generalize (lg_sl ([.ref h_this, .ref h_a0]) ++ List.replicate (4 - (lg_sl ([.ref h_this, .ref h_a0])).length) Slot.unset).toArray = ls at hl ⊢
  have hl : lv_has ls 4 [(0, .ref h_this), (1, .ref h_a0)] := hl
  refine lv_aload_n hx hb dX0_rank_0 rfl (lv_at hl 1 rfl) ?_
  refine va_get (D := D) (ci := 1) (v := .int v_a0_there) (C := RX1) (T := TX1) (N := 6) hx hb hts mcX0_rank_X1 hown hK.1 hP 3 rfl rfl 0 (by decide) (hts _ mwX0_rank_1) (fun _ h9 => h9) rfl dX0_rank_1 ?_
  refine lv_sipush (v := (1023 : Int32)) hx hb dX0_rank_4 (by decide) ?_
  refine lv_iand hx hb dX0_rank_7 ?_
  refine lv_topi (fun x_1 ex_1 => ?_)
  replace vc := vc x_1 ex_1
  refine lv_istore_n (lv' := [(2, .int x_1), (0, .ref h_this), (1, .ref h_a0)]) hx hb dX0_rank_8 rfl hl (by decide) rfl (fun ls hl => ?_)
  refine lv_aload_n hx hb dX0_rank_9 rfl (lv_at hl 1 rfl) ?_
  refine lv_aload_n hx hb dX0_rank_10 rfl (lv_at hl 2 rfl) ?_
  refine kj_v (wr := [(h_this_rowOf, .inl (cI, 10240, .inl v_rowOf))]) (rest := []) (kV ⟨hx, hb, hml, hown, hts⟩ (kX0_measureBorders _ h_this h_a0 h_this_between h_this_rowOf h_this_stitchesOf h_this_parishesOf h_this_weightOf h_a0_wool h_a0_stitches h_a0_place v_leastBorders v_firstInRow v_between v_a0_there v_a0_hair v_a0_year v_a0_stitches vc.1) (cwV 1 hts gX0_rank_X0_measureBorders rfl rfl rfl (by decide +kernel) ⟨(Nat.le_of_ble_eq_true rfl), (Nat.le_of_ble_eq_true rfl)⟩) hK hP hD [0, 1, 3, 4] rfl rfl 0 0 rfl rfl rfl rfl rfl hl.1 (Nat.le_of_ble_eq_true rfl) dX0_rank_11 ⟨(Nat.le_of_ble_eq_true rfl), (Nat.le_of_ble_eq_true rfl)⟩) hP hD hS hA [0, 1, 3, 4] [2] rfl rfl rfl rfl (fun u_ H locs hq_ hP hD hS => ?_)
  obtain ⟨f_2, rfl⟩ : ∃ z, z = u_ := ⟨_, rfl⟩
  replace vc := vc.2  f_2 hq_
  refine W.widen (k := 0) (n := 0) (Nat.le_of_ble_eq_true rfl) (Nat.le_of_ble_eq_true rfl) ?_
  have hP : va_P D vwCl [(h_this_rowOf, .inl (cI, 10240, .inl v_rowOf)), (h_this, .inr (0, [.int v_leastBorders, .int v_firstInRow, .ref h_this_between, .ref h_this_rowOf, .ref h_this_stitchesOf, .ref h_this_parishesOf, .ref h_this_weightOf])), (h_this_between, .inl (cI, 100, .inl f_2)), (h_a0, .inr (1, [.int v_a0_there, .int v_a0_hair, .int v_a0_year, .ref h_a0_wool, .ref h_a0_stitches, .ref h_a0_place])), (h_a0_stitches, .inl (cI, 10, .inl v_a0_stitches))] H := hP
  have hD : va_D A [(h_this_rowOf, .inl (cI, 10240, .inl v_rowOf)), (h_this, .inr (0, [.int v_leastBorders, .int v_firstInRow, .ref h_this_between, .ref h_this_rowOf, .ref h_this_stitchesOf, .ref h_this_parishesOf, .ref h_this_weightOf])), (h_this_between, .inl (cI, 100, .inl f_2)), (h_a0, .inr (1, [.int v_a0_there, .int v_a0_hair, .int v_a0_year, .ref h_a0_wool, .ref h_a0_stitches, .ref h_a0_place])), (h_a0_stitches, .inl (cI, 10, .inl v_a0_stitches))] := hD
  refine lv_iconst (v := (1 : Int32)) hx hb dX0_rank_14 (by decide) ?_
  refine lv_istore_n (lv' := [(3, .int (1 : Int32)), (2, .int x_1), (0, .ref h_this), (1, .ref h_a0)]) hx hb dX0_rank_15 rfl hl (by decide) rfl (fun ls hl => ?_)
  obtain ⟨⟨n0_3, hi0_3⟩, vc⟩ := vc
  refine kloop (V := Int32 × (Nat → Int32)) (I := fun n v => IX0_rank_16 v_leastBorders v_firstInRow v_between v_rowOf v_a0_there v_a0_stitches n x_1 (v.1) v_leastBorders v_firstInRow f_2 (v.2)) (wv := fun v => [(h_this_rowOf, .inl (cI, 10240, .inl (v.2))), (h_this, .inr (0, [.int v_leastBorders, .int v_firstInRow, .ref h_this_between, .ref h_this_rowOf, .ref h_this_stitchesOf, .ref h_this_parishesOf, .ref h_this_weightOf])), (h_this_between, .inl (cI, 100, .inl f_2)), (h_a0, .inr (1, [.int v_a0_there, .int v_a0_hair, .int v_a0_year, .ref h_a0_wool, .ref h_a0_stitches, .ref h_a0_place])), (h_a0_stitches, .inl (cI, 10, .inl v_a0_stitches))]) (lv := fun v => [(0, .ref h_this), (2, .int x_1), (3, .int (v.1))]) n0_3 ((1 : Int32), v_rowOf) hi0_3 hP hD hS (lv_sub hl [2, 1, 0] rfl) ?_
  intro n_3 v_3 hi_3 ih_3 H locs hP hD hS ls hl
  obtain ⟨i_4, f_5⟩ := v_3
  replace vc := vc n_3 i_4 f_5 hi_3
  have hP : va_P D vwCl [(h_this_rowOf, .inl (cI, 10240, .inl f_5)), (h_this, .inr (0, [.int v_leastBorders, .int v_firstInRow, .ref h_this_between, .ref h_this_rowOf, .ref h_this_stitchesOf, .ref h_this_parishesOf, .ref h_this_weightOf])), (h_this_between, .inl (cI, 100, .inl f_2)), (h_a0, .inr (1, [.int v_a0_there, .int v_a0_hair, .int v_a0_year, .ref h_a0_wool, .ref h_a0_stitches, .ref h_a0_place])), (h_a0_stitches, .inl (cI, 10, .inl v_a0_stitches))] H := hP
  have hD : va_D A [(h_this_rowOf, .inl (cI, 10240, .inl f_5)), (h_this, .inr (0, [.int v_leastBorders, .int v_firstInRow, .ref h_this_between, .ref h_this_rowOf, .ref h_this_stitchesOf, .ref h_this_parishesOf, .ref h_this_weightOf])), (h_this_between, .inl (cI, 100, .inl f_2)), (h_a0, .inr (1, [.int v_a0_there, .int v_a0_hair, .int v_a0_year, .ref h_a0_wool, .ref h_a0_stitches, .ref h_a0_place])), (h_a0_stitches, .inl (cI, 10, .inl v_a0_stitches))] := hD
  have hl : lv_has ls 4 [(0, .ref h_this), (2, .int x_1), (3, .int i_4)] := hl
  refine lv_iload_n hx hb dX0_rank_16 rfl (lv_at hl 2 rfl) ?_
  refine lv_iload_n hx hb dX0_rank_17 rfl (lv_at hl 1 rfl) ?_
  refine lv_icmp_gt (tgt := 40) hx hb dX0_rank_18 (by decide) (fun c_ => ?_) (fun c_ => ?_)
  · replace vc := vc.1 c_
    refine lv_aload_n hx hb dX0_rank_40 rfl (lv_at hl 0 rfl) ?_
    refine lv_iconst (v := (0 : Int32)) hx hb dX0_rank_41 (by decide) ?_
    refine va_put (D := D) (ci := 0) (v := .int (0 : Int32)) (ty := .int) (C := RX0) (T := TX0) (N := 7) hx hb hts mcX0_rank_X0 tyX0 tyX0_ok nmX0 hown hK.1 hP hD hS 1 rfl rfl 0 (by decide) (hts _ mwX0_rank_2) (fun _ h9 => h9) rfl (by decide +kernel) rfl rfl (Nat.le_of_ble_eq_true rfl) dX0_rank_42 (fun H locs hP hD hS => ?_)
    have hP : va_P D vwCl [(h_this_rowOf, .inl (cI, 10240, .inl f_5)), (h_this, .inr (0, [.int (0 : Int32), .int v_firstInRow, .ref h_this_between, .ref h_this_rowOf, .ref h_this_stitchesOf, .ref h_this_parishesOf, .ref h_this_weightOf])), (h_this_between, .inl (cI, 100, .inl f_2)), (h_a0, .inr (1, [.int v_a0_there, .int v_a0_hair, .int v_a0_year, .ref h_a0_wool, .ref h_a0_stitches, .ref h_a0_place])), (h_a0_stitches, .inl (cI, 10, .inl v_a0_stitches))] H := hP
    have hD : va_D A [(h_this_rowOf, .inl (cI, 10240, .inl f_5)), (h_this, .inr (0, [.int (0 : Int32), .int v_firstInRow, .ref h_this_between, .ref h_this_rowOf, .ref h_this_stitchesOf, .ref h_this_parishesOf, .ref h_this_weightOf])), (h_this_between, .inl (cI, 100, .inl f_2)), (h_a0, .inr (1, [.int v_a0_there, .int v_a0_hair, .int v_a0_year, .ref h_a0_wool, .ref h_a0_stitches, .ref h_a0_place])), (h_a0_stitches, .inl (cI, 10, .inl v_a0_stitches))] := hD
    refine lv_aload_n hx hb dX0_rank_45 rfl (lv_at hl 0 rfl) ?_
    refine lv_bipush (v := (-6 : Int32)) hx hb dX0_rank_46 (by decide) ?_
    refine va_put (D := D) (ci := 0) (v := .int (-6 : Int32)) (ty := .int) (C := RX0) (T := TX0) (N := 7) hx hb hts mcX0_rank_X0 tyX0 tyX0_ok nmX0 hown hK.1 hP hD hS 1 rfl rfl 1 (by decide) (hts _ mwX0_rank_3) (fun _ h9 => h9) rfl (by decide +kernel) rfl rfl (Nat.le_of_ble_eq_true rfl) dX0_rank_48 (fun H locs hP hD hS => ?_)
    have hP : va_P D vwCl [(h_this_rowOf, .inl (cI, 10240, .inl f_5)), (h_this, .inr (0, [.int (0 : Int32), .int (-6 : Int32), .ref h_this_between, .ref h_this_rowOf, .ref h_this_stitchesOf, .ref h_this_parishesOf, .ref h_this_weightOf])), (h_this_between, .inl (cI, 100, .inl f_2)), (h_a0, .inr (1, [.int v_a0_there, .int v_a0_hair, .int v_a0_year, .ref h_a0_wool, .ref h_a0_stitches, .ref h_a0_place])), (h_a0_stitches, .inl (cI, 10, .inl v_a0_stitches))] H := hP
    have hD : va_D A [(h_this_rowOf, .inl (cI, 10240, .inl f_5)), (h_this, .inr (0, [.int (0 : Int32), .int (-6 : Int32), .ref h_this_between, .ref h_this_rowOf, .ref h_this_stitchesOf, .ref h_this_parishesOf, .ref h_this_weightOf])), (h_this_between, .inl (cI, 100, .inl f_2)), (h_a0, .inr (1, [.int v_a0_there, .int v_a0_hair, .int v_a0_year, .ref h_a0_wool, .ref h_a0_stitches, .ref h_a0_place])), (h_a0_stitches, .inl (cI, 10, .inl v_a0_stitches))] := hD
    refine lv_iconst (v := (0 : Int32)) hx hb dX0_rank_51 (by decide) ?_
    refine lv_istore_n (lv' := [(3, .int (0 : Int32)), (0, .ref h_this), (2, .int x_1)]) hx hb dX0_rank_52 rfl hl (by decide) rfl (fun ls hl => ?_)
    obtain ⟨⟨n0_6, hi0_6⟩, vc⟩ := vc
    refine kloop (V := Int32 × Int32 × Int32) (I := fun n v => IX0_rank_53 v_leastBorders v_firstInRow v_between v_rowOf v_a0_there v_a0_stitches n x_1 (v.1) (v.2.1) (v.2.2) f_2 f_5) (wv := fun v => [(h_this_rowOf, .inl (cI, 10240, .inl f_5)), (h_this, .inr (0, [.int (v.2.1), .int (v.2.2), .ref h_this_between, .ref h_this_rowOf, .ref h_this_stitchesOf, .ref h_this_parishesOf, .ref h_this_weightOf])), (h_this_between, .inl (cI, 100, .inl f_2)), (h_a0, .inr (1, [.int v_a0_there, .int v_a0_hair, .int v_a0_year, .ref h_a0_wool, .ref h_a0_stitches, .ref h_a0_place])), (h_a0_stitches, .inl (cI, 10, .inl v_a0_stitches))]) (lv := fun v => [(0, .ref h_this), (2, .int x_1), (3, .int (v.1))]) n0_6 ((0 : Int32), (0 : Int32), (-6 : Int32)) hi0_6 hP hD hS (lv_sub hl [1, 2, 0] rfl) ?_
    intro n_6 v_6 hi_6 ih_6 H locs hP hD hS ls hl
    obtain ⟨i_7, g_8, g_9⟩ := v_6
    replace vc := vc n_6 i_7 g_8 g_9 hi_6
    have hP : va_P D vwCl [(h_this_rowOf, .inl (cI, 10240, .inl f_5)), (h_this, .inr (0, [.int g_8, .int g_9, .ref h_this_between, .ref h_this_rowOf, .ref h_this_stitchesOf, .ref h_this_parishesOf, .ref h_this_weightOf])), (h_this_between, .inl (cI, 100, .inl f_2)), (h_a0, .inr (1, [.int v_a0_there, .int v_a0_hair, .int v_a0_year, .ref h_a0_wool, .ref h_a0_stitches, .ref h_a0_place])), (h_a0_stitches, .inl (cI, 10, .inl v_a0_stitches))] H := hP
    have hD : va_D A [(h_this_rowOf, .inl (cI, 10240, .inl f_5)), (h_this, .inr (0, [.int g_8, .int g_9, .ref h_this_between, .ref h_this_rowOf, .ref h_this_stitchesOf, .ref h_this_parishesOf, .ref h_this_weightOf])), (h_this_between, .inl (cI, 100, .inl f_2)), (h_a0, .inr (1, [.int v_a0_there, .int v_a0_hair, .int v_a0_year, .ref h_a0_wool, .ref h_a0_stitches, .ref h_a0_place])), (h_a0_stitches, .inl (cI, 10, .inl v_a0_stitches))] := hD
    have hl : lv_has ls 4 [(0, .ref h_this), (2, .int x_1), (3, .int i_7)] := hl
    refine lv_iload_n hx hb dX0_rank_53 rfl (lv_at hl 2 rfl) ?_
    refine lv_bipush (v := (10 : Int32)) hx hb dX0_rank_54 (by decide) ?_
    refine lv_icmp_ge (tgt := 120) hx hb dX0_rank_56 (by decide) (fun c_ => ?_) (fun c_ => ?_)
    · replace vc := vc.1 c_
      exact W.vret hx hb hr (fun t ht hW => ⟨⟨(g_8, g_9, f_2, f_5), rfl, vc, QB_mk (hP.sub [1, 2, 0, 3, 4] rfl) (hD.sub [1, 2, 0, 3, 4] rfl rfl) ht⟩, hS.F ht⟩) hS.2.2 dX0_rank_120
    · replace vc := vc.2 c_
      refine lv_iload_n hx hb dX0_rank_59 rfl (lv_at hl 1 rfl) ?_
      refine lv_iload_n hx hb dX0_rank_60 rfl (lv_at hl 2 rfl) ?_
      refine kj0_i (rest := []) (kSN ⟨hx, hb, hml, hown, hts⟩ (kX8_isIn _ x_1 i_7 vc.1) ⟨va_cnB 2 hts gX0_rank_X8_isIn_n47 rfl rfl rfl (KK_n6 hK) (hts _ mwX0_rank_24) (by decide +kernel) ⟨(Nat.le_of_ble_eq_true rfl), (Nat.le_of_ble_eq_true rfl)⟩, (hts _ mwX0_rank_23), trivial⟩ hK rfl rfl hl.1 (Nat.le_of_ble_eq_true rfl) dX0_rank_61 ⟨(Nat.le_of_ble_eq_true rfl), (Nat.le_of_ble_eq_true rfl)⟩) hP hS hA (fun r_10 H locs hq_ hP hS => ?_)
      replace vc := vc.2 r_10 hq_
      have hP : va_P D vwCl [(h_this_rowOf, .inl (cI, 10240, .inl f_5)), (h_this, .inr (0, [.int g_8, .int g_9, .ref h_this_between, .ref h_this_rowOf, .ref h_this_stitchesOf, .ref h_this_parishesOf, .ref h_this_weightOf])), (h_this_between, .inl (cI, 100, .inl f_2)), (h_a0, .inr (1, [.int v_a0_there, .int v_a0_hair, .int v_a0_year, .ref h_a0_wool, .ref h_a0_stitches, .ref h_a0_place])), (h_a0_stitches, .inl (cI, 10, .inl v_a0_stitches))] H := hP
      refine lv_if_eq (tgt := 114) hx hb dX0_rank_64 (by decide) (fun c_ => ?_) (fun c_ => ?_)
      · replace vc := vc.1 c_
        obtain ⟨x_11, ex_11⟩ : ∃ y_ : Int32, y_ = (i_7 + (1 : Int32)) := ⟨_, rfl⟩
        replace vc := vc x_11 ex_11
        refine lv_iinc (v := x_11) (lv' := [(3, .int x_11), (0, .ref h_this), (2, .int x_1)]) hx hb dX0_rank_114 hl (k := 2) rfl (by rw [ex_11]; rfl) (by decide) rfl (fun ls hl => ?_)
        refine lv_goto (tgt := 53) hx hb dX0_rank_117 (by decide) ?_
        obtain ⟨n1_, hlt_, hi_⟩ := vc
        exact ih_6 n1_ (x_11, g_8, g_9) hlt_ hi_ _ _ hP hD hS ls (lv_sub hl [1, 2, 0] rfl)
      · replace vc := vc.2 c_
        refine lv_aload_n hx hb dX0_rank_67 rfl (lv_at hl 0 rfl) ?_
        refine va_get (D := D) (ci := 0) (v := .int g_9) (C := RX0) (T := TX0) (N := 7) hx hb hts mcX0_rank_X0 hown hK.1 hP 1 rfl rfl 1 (by decide) (hts _ mwX0_rank_3) (fun _ h9 => h9) rfl dX0_rank_68 ?_
        refine lv_bipush (v := (-6 : Int32)) hx hb dX0_rank_71 (by decide) ?_
        refine lv_icmp_eq (tgt := 94) hx hb dX0_rank_73 (by decide) (fun c_ => ?_) (fun c_ => ?_)
        · replace vc := vc.1 c_
          refine lv_aload_n hx hb dX0_rank_94 rfl (lv_at hl 0 rfl) ?_
          refine lv_iload_n hx hb dX0_rank_95 rfl (lv_at hl 2 rfl) ?_
          refine va_put (D := D) (ci := 0) (v := .int i_7) (ty := .int) (C := RX0) (T := TX0) (N := 7) hx hb hts mcX0_rank_X0 tyX0 tyX0_ok nmX0 hown hK.1 hP hD hS 1 rfl rfl 1 (by decide) (hts _ mwX0_rank_3) (fun _ h9 => h9) rfl (by decide +kernel) rfl rfl (Nat.le_of_ble_eq_true rfl) dX0_rank_96 (fun H locs hP hD hS => ?_)
          have hP : va_P D vwCl [(h_this_rowOf, .inl (cI, 10240, .inl f_5)), (h_this, .inr (0, [.int g_8, .int i_7, .ref h_this_between, .ref h_this_rowOf, .ref h_this_stitchesOf, .ref h_this_parishesOf, .ref h_this_weightOf])), (h_this_between, .inl (cI, 100, .inl f_2)), (h_a0, .inr (1, [.int v_a0_there, .int v_a0_hair, .int v_a0_year, .ref h_a0_wool, .ref h_a0_stitches, .ref h_a0_place])), (h_a0_stitches, .inl (cI, 10, .inl v_a0_stitches))] H := hP
          have hD : va_D A [(h_this_rowOf, .inl (cI, 10240, .inl f_5)), (h_this, .inr (0, [.int g_8, .int i_7, .ref h_this_between, .ref h_this_rowOf, .ref h_this_stitchesOf, .ref h_this_parishesOf, .ref h_this_weightOf])), (h_this_between, .inl (cI, 100, .inl f_2)), (h_a0, .inr (1, [.int v_a0_there, .int v_a0_hair, .int v_a0_year, .ref h_a0_wool, .ref h_a0_stitches, .ref h_a0_place])), (h_a0_stitches, .inl (cI, 10, .inl v_a0_stitches))] := hD
          refine lv_aload_n hx hb dX0_rank_99 rfl (lv_at hl 0 rfl) ?_
          refine lv_aload_n hx hb dX0_rank_100 rfl (lv_at hl 0 rfl) ?_
          refine va_get (D := D) (ci := 0) (v := .ref h_this_rowOf) (C := RX0) (T := TX0) (N := 7) hx hb hts mcX0_rank_X0 hown hK.1 hP 1 rfl rfl 3 (by decide) (hts _ mwX0_rank_4) (fun _ h9 => h9) rfl dX0_rank_101 ?_
          refine lv_iload_n hx hb dX0_rank_104 rfl (lv_at hl 1 rfl) ?_
          refine lv_bipush (v := (10 : Int32)) hx hb dX0_rank_105 (by decide) ?_
          refine lv_imul hx hb dX0_rank_107 ?_
          refine lv_iload_n hx hb dX0_rank_108 rfl (lv_at hl 2 rfl) ?_
          refine lv_iadd hx hb dX0_rank_109 ?_
          have hi_12 := vc.1
          replace vc := vc.2
          refine va_iald hx hb hK.1 hP 0 0 rfl rfl hi_12 dX0_rank_110 ?_
          refine lv_topi (fun x_13 ex_13 => ?_)
          replace vc := vc x_13 ex_13
          refine va_put (D := D) (ci := 0) (v := .int x_13) (ty := .int) (C := RX0) (T := TX0) (N := 7) hx hb hts mcX0_rank_X0 tyX0 tyX0_ok nmX0 hown hK.1 hP hD hS 1 rfl rfl 0 (by decide) (hts _ mwX0_rank_2) (fun _ h9 => h9) rfl (by decide +kernel) rfl rfl (Nat.le_of_ble_eq_true rfl) dX0_rank_111 (fun H locs hP hD hS => ?_)
          have hP : va_P D vwCl [(h_this_rowOf, .inl (cI, 10240, .inl f_5)), (h_this, .inr (0, [.int x_13, .int i_7, .ref h_this_between, .ref h_this_rowOf, .ref h_this_stitchesOf, .ref h_this_parishesOf, .ref h_this_weightOf])), (h_this_between, .inl (cI, 100, .inl f_2)), (h_a0, .inr (1, [.int v_a0_there, .int v_a0_hair, .int v_a0_year, .ref h_a0_wool, .ref h_a0_stitches, .ref h_a0_place])), (h_a0_stitches, .inl (cI, 10, .inl v_a0_stitches))] H := hP
          have hD : va_D A [(h_this_rowOf, .inl (cI, 10240, .inl f_5)), (h_this, .inr (0, [.int x_13, .int i_7, .ref h_this_between, .ref h_this_rowOf, .ref h_this_stitchesOf, .ref h_this_parishesOf, .ref h_this_weightOf])), (h_this_between, .inl (cI, 100, .inl f_2)), (h_a0, .inr (1, [.int v_a0_there, .int v_a0_hair, .int v_a0_year, .ref h_a0_wool, .ref h_a0_stitches, .ref h_a0_place])), (h_a0_stitches, .inl (cI, 10, .inl v_a0_stitches))] := hD
          obtain ⟨x_14, ex_14⟩ : ∃ y_ : Int32, y_ = (i_7 + (1 : Int32)) := ⟨_, rfl⟩
          replace vc := vc x_14 ex_14
          refine lv_iinc (v := x_14) (lv' := [(3, .int x_14), (0, .ref h_this), (2, .int x_1)]) hx hb dX0_rank_114 hl (k := 2) rfl (by rw [ex_14]; rfl) (by decide) rfl (fun ls hl => ?_)
          refine lv_goto (tgt := 53) hx hb dX0_rank_117 (by decide) ?_
          obtain ⟨n1_, hlt_, hi_⟩ := vc
          exact ih_6 n1_ (x_14, x_13, i_7) hlt_ hi_ _ _ hP hD hS ls (lv_sub hl [1, 2, 0] rfl)
        · replace vc := vc.2 c_
          refine lv_aload_n hx hb dX0_rank_76 rfl (lv_at hl 0 rfl) ?_
          refine va_get (D := D) (ci := 0) (v := .ref h_this_rowOf) (C := RX0) (T := TX0) (N := 7) hx hb hts mcX0_rank_X0 hown hK.1 hP 1 rfl rfl 3 (by decide) (hts _ mwX0_rank_4) (fun _ h9 => h9) rfl dX0_rank_77 ?_
          refine lv_iload_n hx hb dX0_rank_80 rfl (lv_at hl 1 rfl) ?_
          refine lv_bipush (v := (10 : Int32)) hx hb dX0_rank_81 (by decide) ?_
          refine lv_imul hx hb dX0_rank_83 ?_
          refine lv_iload_n hx hb dX0_rank_84 rfl (lv_at hl 2 rfl) ?_
          refine lv_iadd hx hb dX0_rank_85 ?_
          have hi_15 := vc.1
          replace vc := vc.2
          refine va_iald hx hb hK.1 hP 0 0 rfl rfl hi_15 dX0_rank_86 ?_
          refine lv_aload_n hx hb dX0_rank_87 rfl (lv_at hl 0 rfl) ?_
          refine va_get (D := D) (ci := 0) (v := .int g_8) (C := RX0) (T := TX0) (N := 7) hx hb hts mcX0_rank_X0 hown hK.1 hP 1 rfl rfl 0 (by decide) (hts _ mwX0_rank_2) (fun _ h9 => h9) rfl dX0_rank_88 ?_
          refine lv_icmp_ge (tgt := 114) hx hb dX0_rank_91 (by decide) (fun c_ => ?_) (fun c_ => ?_)
          · replace vc := vc.1 c_
            obtain ⟨x_16, ex_16⟩ : ∃ y_ : Int32, y_ = (i_7 + (1 : Int32)) := ⟨_, rfl⟩
            replace vc := vc x_16 ex_16
            refine lv_iinc (v := x_16) (lv' := [(3, .int x_16), (0, .ref h_this), (2, .int x_1)]) hx hb dX0_rank_114 hl (k := 2) rfl (by rw [ex_16]; rfl) (by decide) rfl (fun ls hl => ?_)
            refine lv_goto (tgt := 53) hx hb dX0_rank_117 (by decide) ?_
            obtain ⟨n1_, hlt_, hi_⟩ := vc
            exact ih_6 n1_ (x_16, g_8, g_9) hlt_ hi_ _ _ hP hD hS ls (lv_sub hl [1, 2, 0] rfl)
          · replace vc := vc.2 c_
            refine lv_aload_n hx hb dX0_rank_94 rfl (lv_at hl 0 rfl) ?_
            refine lv_iload_n hx hb dX0_rank_95 rfl (lv_at hl 2 rfl) ?_
            refine va_put (D := D) (ci := 0) (v := .int i_7) (ty := .int) (C := RX0) (T := TX0) (N := 7) hx hb hts mcX0_rank_X0 tyX0 tyX0_ok nmX0 hown hK.1 hP hD hS 1 rfl rfl 1 (by decide) (hts _ mwX0_rank_3) (fun _ h9 => h9) rfl (by decide +kernel) rfl rfl (Nat.le_of_ble_eq_true rfl) dX0_rank_96 (fun H locs hP hD hS => ?_)
            have hP : va_P D vwCl [(h_this_rowOf, .inl (cI, 10240, .inl f_5)), (h_this, .inr (0, [.int g_8, .int i_7, .ref h_this_between, .ref h_this_rowOf, .ref h_this_stitchesOf, .ref h_this_parishesOf, .ref h_this_weightOf])), (h_this_between, .inl (cI, 100, .inl f_2)), (h_a0, .inr (1, [.int v_a0_there, .int v_a0_hair, .int v_a0_year, .ref h_a0_wool, .ref h_a0_stitches, .ref h_a0_place])), (h_a0_stitches, .inl (cI, 10, .inl v_a0_stitches))] H := hP
            have hD : va_D A [(h_this_rowOf, .inl (cI, 10240, .inl f_5)), (h_this, .inr (0, [.int g_8, .int i_7, .ref h_this_between, .ref h_this_rowOf, .ref h_this_stitchesOf, .ref h_this_parishesOf, .ref h_this_weightOf])), (h_this_between, .inl (cI, 100, .inl f_2)), (h_a0, .inr (1, [.int v_a0_there, .int v_a0_hair, .int v_a0_year, .ref h_a0_wool, .ref h_a0_stitches, .ref h_a0_place])), (h_a0_stitches, .inl (cI, 10, .inl v_a0_stitches))] := hD
            refine lv_aload_n hx hb dX0_rank_99 rfl (lv_at hl 0 rfl) ?_
            refine lv_aload_n hx hb dX0_rank_100 rfl (lv_at hl 0 rfl) ?_
            refine va_get (D := D) (ci := 0) (v := .ref h_this_rowOf) (C := RX0) (T := TX0) (N := 7) hx hb hts mcX0_rank_X0 hown hK.1 hP 1 rfl rfl 3 (by decide) (hts _ mwX0_rank_4) (fun _ h9 => h9) rfl dX0_rank_101 ?_
            refine lv_iload_n hx hb dX0_rank_104 rfl (lv_at hl 1 rfl) ?_
            refine lv_bipush (v := (10 : Int32)) hx hb dX0_rank_105 (by decide) ?_
            refine lv_imul hx hb dX0_rank_107 ?_
            refine lv_iload_n hx hb dX0_rank_108 rfl (lv_at hl 2 rfl) ?_
            refine lv_iadd hx hb dX0_rank_109 ?_
            have hi_17 := vc.1
            replace vc := vc.2
            refine va_iald hx hb hK.1 hP 0 0 rfl rfl hi_17 dX0_rank_110 ?_
            refine lv_topi (fun x_18 ex_18 => ?_)
            replace vc := vc x_18 ex_18
            refine va_put (D := D) (ci := 0) (v := .int x_18) (ty := .int) (C := RX0) (T := TX0) (N := 7) hx hb hts mcX0_rank_X0 tyX0 tyX0_ok nmX0 hown hK.1 hP hD hS 1 rfl rfl 0 (by decide) (hts _ mwX0_rank_2) (fun _ h9 => h9) rfl (by decide +kernel) rfl rfl (Nat.le_of_ble_eq_true rfl) dX0_rank_111 (fun H locs hP hD hS => ?_)
            have hP : va_P D vwCl [(h_this_rowOf, .inl (cI, 10240, .inl f_5)), (h_this, .inr (0, [.int x_18, .int i_7, .ref h_this_between, .ref h_this_rowOf, .ref h_this_stitchesOf, .ref h_this_parishesOf, .ref h_this_weightOf])), (h_this_between, .inl (cI, 100, .inl f_2)), (h_a0, .inr (1, [.int v_a0_there, .int v_a0_hair, .int v_a0_year, .ref h_a0_wool, .ref h_a0_stitches, .ref h_a0_place])), (h_a0_stitches, .inl (cI, 10, .inl v_a0_stitches))] H := hP
            have hD : va_D A [(h_this_rowOf, .inl (cI, 10240, .inl f_5)), (h_this, .inr (0, [.int x_18, .int i_7, .ref h_this_between, .ref h_this_rowOf, .ref h_this_stitchesOf, .ref h_this_parishesOf, .ref h_this_weightOf])), (h_this_between, .inl (cI, 100, .inl f_2)), (h_a0, .inr (1, [.int v_a0_there, .int v_a0_hair, .int v_a0_year, .ref h_a0_wool, .ref h_a0_stitches, .ref h_a0_place])), (h_a0_stitches, .inl (cI, 10, .inl v_a0_stitches))] := hD
            obtain ⟨x_19, ex_19⟩ : ∃ y_ : Int32, y_ = (i_7 + (1 : Int32)) := ⟨_, rfl⟩
            replace vc := vc x_19 ex_19
            refine lv_iinc (v := x_19) (lv' := [(3, .int x_19), (0, .ref h_this), (2, .int x_1)]) hx hb dX0_rank_114 hl (k := 2) rfl (by rw [ex_19]; rfl) (by decide) rfl (fun ls hl => ?_)
            refine lv_goto (tgt := 53) hx hb dX0_rank_117 (by decide) ?_
            obtain ⟨n1_, hlt_, hi_⟩ := vc
            exact ih_6 n1_ (x_19, x_18, i_7) hlt_ hi_ _ _ hP hD hS ls (lv_sub hl [1, 2, 0] rfl)
  · replace vc := vc.2 c_
    refine lv_iload_n hx hb dX0_rank_21 rfl (lv_at hl 2 rfl) ?_
    refine lv_iload_n hx hb dX0_rank_22 rfl (lv_at hl 1 rfl) ?_
    refine lv_iconst (v := (-1 : Int32)) hx hb dX0_rank_23 (by decide) ?_
    refine lv_ixor hx hb dX0_rank_24 ?_
    refine lv_iand hx hb dX0_rank_25 ?_
    refine lv_if_ne (tgt := 34) hx hb dX0_rank_26 (by decide) (fun c_ => ?_) (fun c_ => ?_)
    · replace vc := vc.1 c_
      obtain ⟨x_20, ex_20⟩ : ∃ y_ : Int32, y_ = (i_4 + (1 : Int32)) := ⟨_, rfl⟩
      replace vc := vc x_20 ex_20
      refine lv_iinc (v := x_20) (lv' := [(3, .int x_20), (0, .ref h_this), (2, .int x_1)]) hx hb dX0_rank_34 hl (k := 2) rfl (by rw [ex_20]; rfl) (by decide) rfl (fun ls hl => ?_)
      refine lv_goto (tgt := 16) hx hb dX0_rank_37 (by decide) ?_
      obtain ⟨n1_, hlt_, hi_⟩ := vc
      exact ih_3 n1_ (x_20, f_5) hlt_ hi_ _ _ hP hD hS ls (lv_sub hl [1, 2, 0] rfl)
    · replace vc := vc.2 c_
      refine lv_aload_n hx hb dX0_rank_29 rfl (lv_at hl 0 rfl) ?_
      refine lv_iload_n hx hb dX0_rank_30 rfl (lv_at hl 2 rfl) ?_
      refine kj_v (wr := [(h_a0, .inr (1, [.int v_a0_there, .int v_a0_hair, .int v_a0_year, .ref h_a0_wool, .ref h_a0_stitches, .ref h_a0_place])), (h_a0_stitches, .inl (cI, 10, .inl v_a0_stitches))]) (rest := []) (kV ⟨hx, hb, hml, hown, hts⟩ (kX0_rankSet _ h_this h_this_between h_this_rowOf h_this_stitchesOf h_this_parishesOf h_this_weightOf i_4 v_leastBorders v_firstInRow f_2 f_5 vc.1) (cwV 1 hts gX0_rank_X0_rankSet rfl rfl rfl (by decide +kernel) ⟨(Nat.le_of_ble_eq_true rfl), (Nat.le_of_ble_eq_true rfl)⟩) hK hP hD [1, 2, 0] rfl rfl 0 0 rfl rfl rfl rfl rfl hl.1 (Nat.le_of_ble_eq_true rfl) dX0_rank_31 ⟨(Nat.le_of_ble_eq_true rfl), (Nat.le_of_ble_eq_true rfl)⟩) hP hD hS hA [1, 2, 0] [3, 4] rfl rfl rfl rfl (fun u_ H locs hq_ hP hD hS => ?_)
      obtain ⟨f_21, rfl⟩ : ∃ z, z = u_ := ⟨_, rfl⟩
      replace vc := vc.2  f_21 hq_
      refine W.widen (k := 0) (n := 0) (Nat.le_of_ble_eq_true rfl) (Nat.le_of_ble_eq_true rfl) ?_
      have hP : va_P D vwCl [(h_a0, .inr (1, [.int v_a0_there, .int v_a0_hair, .int v_a0_year, .ref h_a0_wool, .ref h_a0_stitches, .ref h_a0_place])), (h_a0_stitches, .inl (cI, 10, .inl v_a0_stitches)), (h_this, .inr (0, [.int v_leastBorders, .int v_firstInRow, .ref h_this_between, .ref h_this_rowOf, .ref h_this_stitchesOf, .ref h_this_parishesOf, .ref h_this_weightOf])), (h_this_between, .inl (cI, 100, .inl f_2)), (h_this_rowOf, .inl (cI, 10240, .inl f_21))] H := hP
      have hD : va_D A [(h_a0, .inr (1, [.int v_a0_there, .int v_a0_hair, .int v_a0_year, .ref h_a0_wool, .ref h_a0_stitches, .ref h_a0_place])), (h_a0_stitches, .inl (cI, 10, .inl v_a0_stitches)), (h_this, .inr (0, [.int v_leastBorders, .int v_firstInRow, .ref h_this_between, .ref h_this_rowOf, .ref h_this_stitchesOf, .ref h_this_parishesOf, .ref h_this_weightOf])), (h_this_between, .inl (cI, 100, .inl f_2)), (h_this_rowOf, .inl (cI, 10240, .inl f_21))] := hD
      obtain ⟨x_22, ex_22⟩ : ∃ y_ : Int32, y_ = (i_4 + (1 : Int32)) := ⟨_, rfl⟩
      replace vc := vc x_22 ex_22
      refine lv_iinc (v := x_22) (lv' := [(3, .int x_22), (0, .ref h_this), (2, .int x_1)]) hx hb dX0_rank_34 hl (k := 2) rfl (by rw [ex_22]; rfl) (by decide) rfl (fun ls hl => ?_)
      refine lv_goto (tgt := 16) hx hb dX0_rank_37 (by decide) ?_
      obtain ⟨n1_, hlt_, hi_⟩ := vc
      exact ih_3 n1_ (x_22, f_21) hlt_ hi_ _ _ (hP.sub [4, 2, 3, 0, 1] rfl) (hD.sub [4, 2, 3, 0, 1] rfl rfl) hS ls (lv_sub hl [1, 2, 0] rfl)

theorem mwX0_mostWith_1 : Cond.fieldLink RX0 21 "HassockSee$Arrangements" "parishesOf" "[I" ∈ wsX0_mostWith := List.mem_of_getElem? (i := 1) rfl
theorem mwX0_mostWith_2 : Cond.fieldLink RX0 18 "HassockSee$Arrangements" "stitchesOf" "[I" ∈ wsX0_mostWith := List.mem_of_getElem? (i := 2) rfl
theorem mwX0_mostWith_3 : Cond.methodLink RX0 81 Lib.Math.max.name ∈ wsX0_mostWith := List.mem_of_getElem? (i := 3) rfl
theorem mwX0_mostWith_4 : Cond.static Lib.Math.max.name ∈ wsX0_mostWith := List.mem_of_getElem? (i := 4) rfl
theorem mwX0_mostWith_5 : Cond.initialized "java/lang/Math" ∈ wsX0_mostWith := List.mem_of_getElem? (i := 5) rfl
theorem mwX0_mostWith_6 : Cond.code Lib.Math.max.name Lib.Math.max.code 2 (some .int) ∈ wsX0_mostWith := List.mem_of_getElem? (i := 6) rfl
theorem mcX0_mostWith_X0 : ∀ w ∈ u_ws RX0 TX0 7, w ∈ wsX0_mostWith := fun _ h => (List.mem_cons_of_mem _ (List.mem_append_right _ h))
def KX0_mostWith (l : Launch) (D : va_G) (cI cZ : ClassId) (P : Int32 → Int32 → Int32 → (Nat → Int32) → (Nat → Int32) → Prop) (Q : Int32 → Int32 → Int32 → (Nat → Int32) → (Nat → Int32) → Int32 → Prop) : Prop := ∀ (sz : Nat) (h_this h_this_between h_this_rowOf h_this_stitchesOf h_this_parishesOf h_this_weightOf : Nat) (p0 : Int32) (p1 : Int32) (p2 : Int32) (v_leastBorders : Int32) (v_firstInRow : Int32) (v_parishesOf : (Nat → Int32)) (v_stitchesOf : (Nat → Int32)), P p0 p1 p2 v_parishesOf v_stitchesOf → MI l yX0_mostWith wsX0_mostWith ({ frames := 1, cells := 0, slots := 0, locals := 40 }) [.ref h_this, .int p0, .int p1, .int p2] D cI cZ sz [(h_this, .inr (0, [.int v_leastBorders, .int v_firstInRow, .ref h_this_between, .ref h_this_rowOf, .ref h_this_stitchesOf, .ref h_this_parishesOf, .ref h_this_weightOf])), (h_this_parishesOf, .inl (cI, 1024, .inl v_parishesOf)), (h_this_stitchesOf, .inl (cI, 1024, .inl v_stitchesOf))] (fun r (u : Unit) => Q p0 p1 p2 v_parishesOf v_stitchesOf r ) (fun u => [(h_this, .inr (0, [.int v_leastBorders, .int v_firstInRow, .ref h_this_between, .ref h_this_rowOf, .ref h_this_stitchesOf, .ref h_this_parishesOf, .ref h_this_weightOf])), (h_this_parishesOf, .inl (cI, 1024, .inl v_parishesOf)), (h_this_stitchesOf, .inl (cI, 1024, .inl v_stitchesOf))]) 0 0
set_option maxHeartbeats 4000000 in
set_option maxRecDepth 100000 in
theorem walkX0_mostWith {l : Launch} {D : va_G} {cI cZ : ClassId} {PX0_mostWith : Int32 → Int32 → Int32 → (Nat → Int32) → (Nat → Int32) → Prop} {QX0_mostWith : Int32 → Int32 → Int32 → (Nat → Int32) → (Nat → Int32) → Int32 → Prop} (IX0_mostWith_14 : Int32 → Int32 → Int32 → (Nat → Int32) → (Nat → Int32) → Nat → Int32 → Int32 → Int32 → Int32 → Int32 → Int32 → Prop) (hvc : ∀ (p0 : Int32) (p1 : Int32) (p2 : Int32) (v_parishesOf : (Nat → Int32)) (v_stitchesOf : (Nat → Int32)), PX0_mostWith p0 p1 p2 v_parishesOf v_stitchesOf → (vp_in p1 1024 ∧ (∀ x_2 : Int32, x_2 = (v_parishesOf (p1).toNatClampNeg) → ((∃ n0 : Nat, IX0_mostWith_14 p0 p1 p2 v_parishesOf v_stitchesOf n0 p0 p1 p2 x_2 p1 (0 : Int32)) ∧ (∀ (n_3 : Nat) (i_4 : Int32) (i_5 : Int32) (i_6 : Int32), (IX0_mostWith_14 p0 p1 p2 v_parishesOf v_stitchesOf n_3 p0 p1 p2 i_6 i_4 i_5 → (((1024 : Int32) ≤ i_5 → (QX0_mostWith p0 p1 p2 v_parishesOf v_stitchesOf i_6 )) ∧ (¬ (1024 : Int32) ≤ i_5 → ((i_4 = 0 → (QX0_mostWith p0 p1 p2 v_parishesOf v_stitchesOf i_6 )) ∧ (¬ i_4 = 0 → (vp_in (i_4 ||| p0) 1024 ∧ ((¬ (v_stitchesOf ((i_4 ||| p0)).toNatClampNeg) = p2 → (∀ x_8 : Int32, x_8 = ((i_4 - (1 : Int32)) &&& p1) → (∀ x_9 : Int32, x_9 = (i_5 + (1 : Int32)) → (∃ n1 : Nat, n1 < n_3 ∧ IX0_mostWith_14 p0 p1 p2 v_parishesOf v_stitchesOf n1 p0 p1 p2 i_6 x_8 x_9)))) ∧ ((v_stitchesOf ((i_4 ||| p0)).toNatClampNeg) = p2 → (vp_in (p1 ^^^ i_4) 1024 ∧ (∀ x_11 : Int32, x_11 = (if i_6 < ((1 : Int32) + (v_parishesOf ((p1 ^^^ i_4)).toNatClampNeg)) then ((1 : Int32) + (v_parishesOf ((p1 ^^^ i_4)).toNatClampNeg)) else i_6) → (∀ x_12 : Int32, x_12 = ((i_4 - (1 : Int32)) &&& p1) → (∀ x_13 : Int32, x_13 = (i_5 + (1 : Int32)) → (∃ n1 : Nat, n1 < n_3 ∧ IX0_mostWith_14 p0 p1 p2 v_parishesOf v_stitchesOf n1 p0 p1 p2 x_11 x_12 x_13)))))))))))))))))) : KX0_mostWith l D cI cZ PX0_mostWith QX0_mostWith := by
  intro sz h_this h_this_between h_this_rowOf h_this_stitchesOf h_this_parishesOf h_this_weightOf p0 p1 p2 v_leastBorders v_firstInRow v_parishesOf v_stitchesOf hpre
  have vc := hvc p0 p1 p2 v_parishesOf v_stitchesOf hpre
  clear hvc
  refine Met.ofW (cc := cX0_mostWith) (maxL := 7) (ret := (some .int)) (by decide) rfl ?_
  intro p e s m args below meth c s₁ B hml hv
  obtain ⟨rfl, hsz, hP, hK, hD0⟩ := hv
  have hx := B.exec
  have hb := B.bytes
  have hr := B.returns
  have hts := atoms_spec (ws := wsX0_mostWith) B.pre
  have hown : s.vm.findClass RX0 = some m.cls := findClass_of_methodNamed B.named
  have hlocks := B.notSynchronized
  subst hsz
  have hD := hD0.self (sz := s.heap.size)
  generalize hAe : va_A [(h_this, .inr (0, [.int v_leastBorders, .int v_firstInRow, .ref h_this_between, .ref h_this_rowOf, .ref h_this_stitchesOf, .ref h_this_parishesOf, .ref h_this_weightOf])), (h_this_parishesOf, .inl (cI, 1024, .inl v_parishesOf)), (h_this_stitchesOf, .inl (cI, 1024, .inl v_stitchesOf))] s.heap.size = A at hD ⊢
  have hA : ∀ q : Nat, s.heap.size ≤ q → A q := fun q h => by rw [← hAe]; exact Or.inr h
  have hS : va_S A s.heap s.heap [] := va_S.rf
  have hP : va_P D vwCl [(h_this, .inr (0, [.int v_leastBorders, .int v_firstInRow, .ref h_this_between, .ref h_this_rowOf, .ref h_this_stitchesOf, .ref h_this_parishesOf, .ref h_this_weightOf])), (h_this_parishesOf, .inl (cI, 1024, .inl v_parishesOf)), (h_this_stitchesOf, .inl (cI, 1024, .inl v_stitchesOf))] s.heap := hP
  have hl := lv_entry ([.ref h_this, .int p0, .int p1, .int p2]) (n := 7) (Nat.le_of_ble_eq_true rfl)
  rw [lg_entry_eq]
  generalize (lg_sl ([.ref h_this, .int p0, .int p1, .int p2]) ++ List.replicate (7 - (lg_sl ([.ref h_this, .int p0, .int p1, .int p2])).length) Slot.unset).toArray = ls at hl ⊢
  have hl : lv_has ls 7 [(0, .ref h_this), (1, .int p0), (2, .int p1), (3, .int p2)] := hl
  refine lv_aload_n hx hb dX0_mostWith_0 rfl (lv_at hl 0 rfl) ?_
  refine va_get (D := D) (ci := 0) (v := .ref h_this_parishesOf) (C := RX0) (T := TX0) (N := 7) hx hb hts mcX0_mostWith_X0 hown hK.1 hP 0 rfl rfl 5 (by decide) (hts _ mwX0_mostWith_1) (fun _ h9 => h9) rfl dX0_mostWith_1 ?_
  refine lv_iload_n hx hb dX0_mostWith_4 rfl (lv_at hl 2 rfl) ?_
  have hi_1 := vc.1
  replace vc := vc.2
  refine va_iald hx hb hK.1 hP 1 0 rfl rfl hi_1 dX0_mostWith_5 ?_
  refine lv_topi (fun x_2 ex_2 => ?_)
  replace vc := vc x_2 ex_2
  refine lv_istore (lv' := [(4, .int x_2), (0, .ref h_this), (1, .int p0), (2, .int p1), (3, .int p2)]) hx hb dX0_mostWith_6 hl (by decide) rfl (fun ls hl => ?_)
  refine lv_iload_n hx hb dX0_mostWith_8 rfl (lv_at hl 3 rfl) ?_
  refine lv_istore (lv' := [(5, .int p1), (4, .int x_2), (0, .ref h_this), (1, .int p0), (2, .int p1), (3, .int p2)]) hx hb dX0_mostWith_9 hl (by decide) rfl (fun ls hl => ?_)
  refine lv_iconst (v := (0 : Int32)) hx hb dX0_mostWith_11 (by decide) ?_
  refine lv_istore (lv' := [(6, .int (0 : Int32)), (5, .int p1), (4, .int x_2), (0, .ref h_this), (1, .int p0), (2, .int p1), (3, .int p2)]) hx hb dX0_mostWith_12 hl (by decide) rfl (fun ls hl => ?_)
  obtain ⟨⟨n0_3, hi0_3⟩, vc⟩ := vc
  refine kloop (V := Int32 × Int32 × Int32) (I := fun n v => IX0_mostWith_14 p0 p1 p2 v_parishesOf v_stitchesOf n p0 p1 p2 (v.2.2) (v.1) (v.2.1)) (wv := fun v => [(h_this, .inr (0, [.int v_leastBorders, .int v_firstInRow, .ref h_this_between, .ref h_this_rowOf, .ref h_this_stitchesOf, .ref h_this_parishesOf, .ref h_this_weightOf])), (h_this_parishesOf, .inl (cI, 1024, .inl v_parishesOf)), (h_this_stitchesOf, .inl (cI, 1024, .inl v_stitchesOf))]) (lv := fun v => [(0, .ref h_this), (1, .int p0), (2, .int p1), (3, .int p2), (4, .int (v.2.2)), (5, .int (v.1)), (6, .int (v.2.1))]) n0_3 (p1, (0 : Int32), x_2) hi0_3 hP hD hS (lv_sub hl [3, 4, 5, 6, 2, 1, 0] rfl) ?_
  intro n_3 v_3 hi_3 ih_3 H locs hP hD hS ls hl
  obtain ⟨i_4, i_5, i_6⟩ := v_3
  replace vc := vc n_3 i_4 i_5 i_6 hi_3
  have hP : va_P D vwCl [(h_this, .inr (0, [.int v_leastBorders, .int v_firstInRow, .ref h_this_between, .ref h_this_rowOf, .ref h_this_stitchesOf, .ref h_this_parishesOf, .ref h_this_weightOf])), (h_this_parishesOf, .inl (cI, 1024, .inl v_parishesOf)), (h_this_stitchesOf, .inl (cI, 1024, .inl v_stitchesOf))] H := hP
  have hD : va_D A [(h_this, .inr (0, [.int v_leastBorders, .int v_firstInRow, .ref h_this_between, .ref h_this_rowOf, .ref h_this_stitchesOf, .ref h_this_parishesOf, .ref h_this_weightOf])), (h_this_parishesOf, .inl (cI, 1024, .inl v_parishesOf)), (h_this_stitchesOf, .inl (cI, 1024, .inl v_stitchesOf))] := hD
  have hl : lv_has ls 7 [(0, .ref h_this), (1, .int p0), (2, .int p1), (3, .int p2), (4, .int i_6), (5, .int i_4), (6, .int i_5)] := hl
  refine lv_iload hx hb dX0_mostWith_14 (lv_at hl 6 rfl) ?_
  refine lv_sipush (v := (1024 : Int32)) hx hb dX0_mostWith_16 (by decide) ?_
  refine lv_icmp_ge (tgt := 72) hx hb dX0_mostWith_19 (by decide) (fun c_ => ?_) (fun c_ => ?_)
  · replace vc := vc.1 c_
    refine lv_iload hx hb dX0_mostWith_72 (lv_at hl 4 rfl) ?_
    exact W.iret (v := i_6) hx hb hr (fun t ht hW => ⟨⟨i_6, (), rfl, vc, QB_mk (hP.sub [0, 1, 2] rfl) (hD.sub [0, 1, 2] rfl rfl) ht⟩, hS.F ht⟩) hS.2.2 dX0_mostWith_74
  · replace vc := vc.2 c_
    refine lv_iload hx hb dX0_mostWith_22 (lv_at hl 5 rfl) ?_
    refine lv_if_eq (tgt := 72) hx hb dX0_mostWith_24 (by decide) (fun c_ => ?_) (fun c_ => ?_)
    · replace vc := vc.1 c_
      refine lv_iload hx hb dX0_mostWith_72 (lv_at hl 4 rfl) ?_
      exact W.iret (v := i_6) hx hb hr (fun t ht hW => ⟨⟨i_6, (), rfl, vc, QB_mk (hP.sub [0, 1, 2] rfl) (hD.sub [0, 1, 2] rfl rfl) ht⟩, hS.F ht⟩) hS.2.2 dX0_mostWith_74
    · replace vc := vc.2 c_
      refine lv_aload_n hx hb dX0_mostWith_27 rfl (lv_at hl 0 rfl) ?_
      refine va_get (D := D) (ci := 0) (v := .ref h_this_stitchesOf) (C := RX0) (T := TX0) (N := 7) hx hb hts mcX0_mostWith_X0 hown hK.1 hP 0 rfl rfl 4 (by decide) (hts _ mwX0_mostWith_2) (fun _ h9 => h9) rfl dX0_mostWith_28 ?_
      refine lv_iload hx hb dX0_mostWith_31 (lv_at hl 5 rfl) ?_
      refine lv_iload_n hx hb dX0_mostWith_33 rfl (lv_at hl 1 rfl) ?_
      refine lv_ior hx hb dX0_mostWith_34 ?_
      have hi_7 := vc.1
      replace vc := vc.2
      refine va_iald hx hb hK.1 hP 2 0 rfl rfl hi_7 dX0_mostWith_35 ?_
      refine lv_iload_n hx hb dX0_mostWith_36 rfl (lv_at hl 3 rfl) ?_
      refine lv_icmp_ne (tgt := 58) hx hb dX0_mostWith_37 (by decide) (fun c_ => ?_) (fun c_ => ?_)
      · replace vc := vc.1 c_
        refine lv_iload hx hb dX0_mostWith_58 (lv_at hl 5 rfl) ?_
        refine lv_iconst (v := (1 : Int32)) hx hb dX0_mostWith_60 (by decide) ?_
        refine lv_isub hx hb dX0_mostWith_61 ?_
        refine lv_iload_n hx hb dX0_mostWith_62 rfl (lv_at hl 2 rfl) ?_
        refine lv_iand hx hb dX0_mostWith_63 ?_
        refine lv_topi (fun x_8 ex_8 => ?_)
        replace vc := vc x_8 ex_8
        refine lv_istore (lv' := [(5, .int x_8), (0, .ref h_this), (1, .int p0), (2, .int p1), (3, .int p2), (4, .int i_6), (6, .int i_5)]) hx hb dX0_mostWith_64 hl (by decide) rfl (fun ls hl => ?_)
        obtain ⟨x_9, ex_9⟩ : ∃ y_ : Int32, y_ = (i_5 + (1 : Int32)) := ⟨_, rfl⟩
        replace vc := vc x_9 ex_9
        refine lv_iinc (v := x_9) (lv' := [(6, .int x_9), (5, .int x_8), (0, .ref h_this), (1, .int p0), (2, .int p1), (3, .int p2), (4, .int i_6)]) hx hb dX0_mostWith_66 hl (k := 6) rfl (by rw [ex_9]; rfl) (by decide) rfl (fun ls hl => ?_)
        refine lv_goto (tgt := 14) hx hb dX0_mostWith_69 (by decide) ?_
        obtain ⟨n1_, hlt_, hi_⟩ := vc
        exact ih_3 n1_ (x_8, x_9, i_6) hlt_ hi_ _ _ hP hD hS ls (lv_sub hl [2, 3, 4, 5, 6, 1, 0] rfl)
      · replace vc := vc.2 c_
        refine lv_iload hx hb dX0_mostWith_40 (lv_at hl 4 rfl) ?_
        refine lv_iconst (v := (1 : Int32)) hx hb dX0_mostWith_42 (by decide) ?_
        refine lv_aload_n hx hb dX0_mostWith_43 rfl (lv_at hl 0 rfl) ?_
        refine va_get (D := D) (ci := 0) (v := .ref h_this_parishesOf) (C := RX0) (T := TX0) (N := 7) hx hb hts mcX0_mostWith_X0 hown hK.1 hP 0 rfl rfl 5 (by decide) (hts _ mwX0_mostWith_1) (fun _ h9 => h9) rfl dX0_mostWith_44 ?_
        refine lv_iload_n hx hb dX0_mostWith_47 rfl (lv_at hl 2 rfl) ?_
        refine lv_iload hx hb dX0_mostWith_48 (lv_at hl 5 rfl) ?_
        refine lv_ixor hx hb dX0_mostWith_50 ?_
        have hi_10 := vc.1
        replace vc := vc.2
        refine va_iald hx hb hK.1 hP 1 0 rfl rfl hi_10 dX0_mostWith_51 ?_
        refine lv_iadd hx hb dX0_mostWith_52 ?_
        refine va_mmax hx hb (by rw [hml]; exact hl.1.symm) hown (hts _ mwX0_mostWith_3) (hts _ mwX0_mostWith_4) (hts _ mwX0_mostWith_5) (hts _ mwX0_mostWith_6) (Nat.le_of_ble_eq_true rfl) (Nat.le_of_ble_eq_true rfl) (Nat.le_of_ble_eq_true rfl) (Nat.le_of_ble_eq_true rfl) dX0_mostWith_53 ?_
        refine lv_topi (fun x_11 ex_11 => ?_)
        replace vc := vc x_11 ex_11
        refine lv_istore (lv' := [(4, .int x_11), (0, .ref h_this), (1, .int p0), (2, .int p1), (3, .int p2), (5, .int i_4), (6, .int i_5)]) hx hb dX0_mostWith_56 hl (by decide) rfl (fun ls hl => ?_)
        refine lv_iload hx hb dX0_mostWith_58 (lv_at hl 5 rfl) ?_
        refine lv_iconst (v := (1 : Int32)) hx hb dX0_mostWith_60 (by decide) ?_
        refine lv_isub hx hb dX0_mostWith_61 ?_
        refine lv_iload_n hx hb dX0_mostWith_62 rfl (lv_at hl 3 rfl) ?_
        refine lv_iand hx hb dX0_mostWith_63 ?_
        refine lv_topi (fun x_12 ex_12 => ?_)
        replace vc := vc x_12 ex_12
        refine lv_istore (lv' := [(5, .int x_12), (4, .int x_11), (0, .ref h_this), (1, .int p0), (2, .int p1), (3, .int p2), (6, .int i_5)]) hx hb dX0_mostWith_64 hl (by decide) rfl (fun ls hl => ?_)
        obtain ⟨x_13, ex_13⟩ : ∃ y_ : Int32, y_ = (i_5 + (1 : Int32)) := ⟨_, rfl⟩
        replace vc := vc x_13 ex_13
        refine lv_iinc (v := x_13) (lv' := [(6, .int x_13), (5, .int x_12), (4, .int x_11), (0, .ref h_this), (1, .int p0), (2, .int p1), (3, .int p2)]) hx hb dX0_mostWith_66 hl (k := 6) rfl (by rw [ex_13]; rfl) (by decide) rfl (fun ls hl => ?_)
        refine lv_goto (tgt := 14) hx hb dX0_mostWith_69 (by decide) ?_
        obtain ⟨n1_, hlt_, hi_⟩ := vc
        exact ih_3 n1_ (x_12, x_13, x_11) hlt_ hi_ _ _ hP hD hS ls (lv_sub hl [3, 4, 5, 6, 2, 1, 0] rfl)

theorem mwX0_reckonWith_1 : Cond.fieldLink RX0 18 "HassockSee$Arrangements" "stitchesOf" "[I" ∈ wsX0_reckonWith := List.mem_of_getElem? (i := 1) rfl
theorem mwX0_reckonWith_2 : Cond.fieldLink RX0 21 "HassockSee$Arrangements" "parishesOf" "[I" ∈ wsX0_reckonWith := List.mem_of_getElem? (i := 2) rfl
theorem mcX0_reckonWith_X0 : ∀ w ∈ u_ws RX0 TX0 7, w ∈ wsX0_reckonWith := fun _ h => (List.mem_cons_of_mem _ (List.mem_append_right _ h))
def KX0_reckonWith (l : Launch) (D : va_G) (cI cZ : ClassId) (P : Int32 → Int32 → Int32 → Int32 → (Nat → Int32) → (Nat → Int32) → Prop) (Q : Int32 → Int32 → Int32 → Int32 → (Nat → Int32) → (Nat → Int32) → (Nat → Int32) → (Nat → Int32) → Prop) : Prop := ∀ (sz : Nat) (h_this h_this_between h_this_rowOf h_this_stitchesOf h_this_parishesOf h_this_weightOf : Nat) (p0 : Int32) (p1 : Int32) (p2 : Int32) (p3 : Int32) (v_leastBorders : Int32) (v_firstInRow : Int32) (v_parishesOf : (Nat → Int32)) (v_stitchesOf : (Nat → Int32)), P p0 p1 p2 p3 v_parishesOf v_stitchesOf → MV l yX0_reckonWith wsX0_reckonWith ({ frames := 2, cells := 0, slots := 0, locals := 66 }) [.ref h_this, .int p0, .int p1, .int p2, .int p3] D cI cZ sz [(h_this, .inr (0, [.int v_leastBorders, .int v_firstInRow, .ref h_this_between, .ref h_this_rowOf, .ref h_this_stitchesOf, .ref h_this_parishesOf, .ref h_this_weightOf])), (h_this_parishesOf, .inl (cI, 1024, .inl v_parishesOf)), (h_this_stitchesOf, .inl (cI, 1024, .inl v_stitchesOf))] (fun (u : (Nat → Int32) × (Nat → Int32)) => Q p0 p1 p2 p3 v_parishesOf v_stitchesOf (u.1) (u.2)) (fun u => [(h_this, .inr (0, [.int v_leastBorders, .int v_firstInRow, .ref h_this_between, .ref h_this_rowOf, .ref h_this_stitchesOf, .ref h_this_parishesOf, .ref h_this_weightOf])), (h_this_parishesOf, .inl (cI, 1024, .inl (u.1))), (h_this_stitchesOf, .inl (cI, 1024, .inl (u.2)))]) 0 0
set_option maxHeartbeats 4000000 in
set_option maxRecDepth 100000 in
theorem walkX0_reckonWith {l : Launch} {D : va_G} {cI cZ : ClassId} {PX0_reckonWith : Int32 → Int32 → Int32 → Int32 → (Nat → Int32) → (Nat → Int32) → Prop} {QX0_reckonWith : Int32 → Int32 → Int32 → Int32 → (Nat → Int32) → (Nat → Int32) → (Nat → Int32) → (Nat → Int32) → Prop} {PX0_mostWith : Int32 → Int32 → Int32 → (Nat → Int32) → (Nat → Int32) → Prop} {QX0_mostWith : Int32 → Int32 → Int32 → (Nat → Int32) → (Nat → Int32) → Int32 → Prop} (kX0_mostWith : KX0_mostWith l D cI cZ PX0_mostWith QX0_mostWith) (IX0_reckonWith_3 : Int32 → Int32 → Int32 → Int32 → (Nat → Int32) → (Nat → Int32) → Nat → Int32 → Int32 → Int32 → Int32 → Int32 → (Nat → Int32) → (Nat → Int32) → Prop) (hvc : ∀ (p0 : Int32) (p1 : Int32) (p2 : Int32) (p3 : Int32) (v_parishesOf : (Nat → Int32)) (v_stitchesOf : (Nat → Int32)), PX0_reckonWith p0 p1 p2 p3 v_parishesOf v_stitchesOf → ((∃ n0 : Nat, IX0_reckonWith_3 p0 p1 p2 p3 v_parishesOf v_stitchesOf n0 p0 p1 p2 p3 (0 : Int32) v_parishesOf v_stitchesOf) ∧ (∀ (n_1 : Nat) (i_2 : Int32) (f_3 : (Nat → Int32)) (f_4 : (Nat → Int32)), (IX0_reckonWith_3 p0 p1 p2 p3 v_parishesOf v_stitchesOf n_1 p0 p1 p2 p3 i_2 f_3 f_4 → ((p0 ≤ i_2 → (QX0_reckonWith p0 p1 p2 p3 v_parishesOf v_stitchesOf f_3 f_4)) ∧ (¬ p0 ≤ i_2 → ((¬ (i_2 &&& (p2 ^^^ (-1 : Int32))) = 0 → (∀ x_5 : Int32, x_5 = (i_2 + (1 : Int32)) → (∃ n1 : Nat, n1 < n_1 ∧ IX0_reckonWith_3 p0 p1 p2 p3 v_parishesOf v_stitchesOf n1 p0 p1 p2 p3 x_5 f_3 f_4))) ∧ ((i_2 &&& (p2 ^^^ (-1 : Int32))) = 0 → (∀ x_6 : Int32, x_6 = (i_2 ||| p0) → (vp_in i_2 1024 ∧ (∀ x_8 : Int32, x_8 = ((f_4 (i_2).toNatClampNeg) ||| p1) → (vp_in x_6 1024 ∧ (vp_in x_6 1024 ∧ ((¬ ((upd f_4 (x_6).toNatClampNeg x_8) (x_6).toNatClampNeg) = p3 → (vp_in x_6 1024 ∧ (∀ x_12 : Int32, x_12 = (i_2 + (1 : Int32)) → (∃ n1 : Nat, n1 < n_1 ∧ IX0_reckonWith_3 p0 p1 p2 p3 v_parishesOf v_stitchesOf n1 p0 p1 p2 p3 x_12 (upd f_3 (x_6).toNatClampNeg (0 : Int32)) (upd f_4 (x_6).toNatClampNeg x_8))))) ∧ (((upd f_4 (x_6).toNatClampNeg x_8) (x_6).toNatClampNeg) = p3 → (PX0_mostWith p0 i_2 p3 f_3 (upd f_4 (x_6).toNatClampNeg x_8) ∧ (∀ (r_13 : Int32), QX0_mostWith p0 i_2 p3 f_3 (upd f_4 (x_6).toNatClampNeg x_8) r_13  → (vp_in x_6 1024 ∧ (∀ x_15 : Int32, x_15 = (i_2 + (1 : Int32)) → (∃ n1 : Nat, n1 < n_1 ∧ IX0_reckonWith_3 p0 p1 p2 p3 v_parishesOf v_stitchesOf n1 p0 p1 p2 p3 x_15 (upd f_3 (x_6).toNatClampNeg r_13) (upd f_4 (x_6).toNatClampNeg x_8))))))))))))))))))))) : KX0_reckonWith l D cI cZ PX0_reckonWith QX0_reckonWith := by
  intro sz h_this h_this_between h_this_rowOf h_this_stitchesOf h_this_parishesOf h_this_weightOf p0 p1 p2 p3 v_leastBorders v_firstInRow v_parishesOf v_stitchesOf hpre
  have vc := hvc p0 p1 p2 p3 v_parishesOf v_stitchesOf hpre
  clear hvc
  refine Met.ofW (cc := cX0_reckonWith) (maxL := 7) (ret := none) (by decide) rfl ?_
  intro p e s m args below meth c s₁ B hml hv
  obtain ⟨rfl, hsz, hP, hK, hD0⟩ := hv
  have hx := B.exec
  have hb := B.bytes
  have hr := B.returns
  have hts := atoms_spec (ws := wsX0_reckonWith) B.pre
  have hown : s.vm.findClass RX0 = some m.cls := findClass_of_methodNamed B.named
  have hlocks := B.notSynchronized
  subst hsz
  have hD := hD0.self (sz := s.heap.size)
  generalize hAe : va_A [(h_this, .inr (0, [.int v_leastBorders, .int v_firstInRow, .ref h_this_between, .ref h_this_rowOf, .ref h_this_stitchesOf, .ref h_this_parishesOf, .ref h_this_weightOf])), (h_this_parishesOf, .inl (cI, 1024, .inl v_parishesOf)), (h_this_stitchesOf, .inl (cI, 1024, .inl v_stitchesOf))] s.heap.size = A at hD ⊢
  have hA : ∀ q : Nat, s.heap.size ≤ q → A q := fun q h => by rw [← hAe]; exact Or.inr h
  have hS : va_S A s.heap s.heap [] := va_S.rf
  have hP : va_P D vwCl [(h_this, .inr (0, [.int v_leastBorders, .int v_firstInRow, .ref h_this_between, .ref h_this_rowOf, .ref h_this_stitchesOf, .ref h_this_parishesOf, .ref h_this_weightOf])), (h_this_parishesOf, .inl (cI, 1024, .inl v_parishesOf)), (h_this_stitchesOf, .inl (cI, 1024, .inl v_stitchesOf))] s.heap := hP
  have hl := lv_entry ([.ref h_this, .int p0, .int p1, .int p2, .int p3]) (n := 7) (Nat.le_of_ble_eq_true rfl)
  rw [lg_entry_eq]
  generalize (lg_sl ([.ref h_this, .int p0, .int p1, .int p2, .int p3]) ++ List.replicate (7 - (lg_sl ([.ref h_this, .int p0, .int p1, .int p2, .int p3])).length) Slot.unset).toArray = ls at hl ⊢
  have hl : lv_has ls 7 [(0, .ref h_this), (1, .int p0), (2, .int p1), (3, .int p2), (4, .int p3)] := hl
  refine lv_iconst (v := (0 : Int32)) hx hb dX0_reckonWith_0 (by decide) ?_
  refine lv_istore (lv' := [(5, .int (0 : Int32)), (0, .ref h_this), (1, .int p0), (2, .int p1), (3, .int p2), (4, .int p3)]) hx hb dX0_reckonWith_1 hl (by decide) rfl (fun ls hl => ?_)
  obtain ⟨⟨n0_1, hi0_1⟩, vc⟩ := vc
  refine kloop (V := Int32 × (Nat → Int32) × (Nat → Int32)) (I := fun n v => IX0_reckonWith_3 p0 p1 p2 p3 v_parishesOf v_stitchesOf n p0 p1 p2 p3 (v.1) (v.2.1) (v.2.2)) (wv := fun v => [(h_this, .inr (0, [.int v_leastBorders, .int v_firstInRow, .ref h_this_between, .ref h_this_rowOf, .ref h_this_stitchesOf, .ref h_this_parishesOf, .ref h_this_weightOf])), (h_this_parishesOf, .inl (cI, 1024, .inl (v.2.1))), (h_this_stitchesOf, .inl (cI, 1024, .inl (v.2.2)))]) (lv := fun v => [(0, .ref h_this), (1, .int p0), (2, .int p1), (3, .int p2), (4, .int p3), (5, .int (v.1))]) n0_1 ((0 : Int32), v_parishesOf, v_stitchesOf) hi0_1 hP hD hS (lv_sub hl [1, 2, 3, 4, 5, 0] rfl) ?_
  intro n_1 v_1 hi_1 ih_1 H locs hP hD hS ls hl
  obtain ⟨i_2, f_3, f_4⟩ := v_1
  replace vc := vc n_1 i_2 f_3 f_4 hi_1
  have hP : va_P D vwCl [(h_this, .inr (0, [.int v_leastBorders, .int v_firstInRow, .ref h_this_between, .ref h_this_rowOf, .ref h_this_stitchesOf, .ref h_this_parishesOf, .ref h_this_weightOf])), (h_this_parishesOf, .inl (cI, 1024, .inl f_3)), (h_this_stitchesOf, .inl (cI, 1024, .inl f_4))] H := hP
  have hD : va_D A [(h_this, .inr (0, [.int v_leastBorders, .int v_firstInRow, .ref h_this_between, .ref h_this_rowOf, .ref h_this_stitchesOf, .ref h_this_parishesOf, .ref h_this_weightOf])), (h_this_parishesOf, .inl (cI, 1024, .inl f_3)), (h_this_stitchesOf, .inl (cI, 1024, .inl f_4))] := hD
  have hl : lv_has ls 7 [(0, .ref h_this), (1, .int p0), (2, .int p1), (3, .int p2), (4, .int p3), (5, .int i_2)] := hl
  refine lv_iload hx hb dX0_reckonWith_3 (lv_at hl 5 rfl) ?_
  refine lv_iload_n hx hb dX0_reckonWith_5 rfl (lv_at hl 1 rfl) ?_
  refine lv_icmp_ge (tgt := 78) hx hb dX0_reckonWith_6 (by decide) (fun c_ => ?_) (fun c_ => ?_)
  · replace vc := vc.1 c_
    exact W.vret hx hb hr (fun t ht hW => ⟨⟨(f_3, f_4), rfl, vc, QB_mk (hP.sub [0, 1, 2] rfl) (hD.sub [0, 1, 2] rfl rfl) ht⟩, hS.F ht⟩) hS.2.2 dX0_reckonWith_78
  · replace vc := vc.2 c_
    refine lv_iload hx hb dX0_reckonWith_9 (lv_at hl 5 rfl) ?_
    refine lv_iload_n hx hb dX0_reckonWith_11 rfl (lv_at hl 3 rfl) ?_
    refine lv_iconst (v := (-1 : Int32)) hx hb dX0_reckonWith_12 (by decide) ?_
    refine lv_ixor hx hb dX0_reckonWith_13 ?_
    refine lv_iand hx hb dX0_reckonWith_14 ?_
    refine lv_if_ne (tgt := 72) hx hb dX0_reckonWith_15 (by decide) (fun c_ => ?_) (fun c_ => ?_)
    · replace vc := vc.1 c_
      obtain ⟨x_5, ex_5⟩ : ∃ y_ : Int32, y_ = (i_2 + (1 : Int32)) := ⟨_, rfl⟩
      replace vc := vc x_5 ex_5
      refine lv_iinc (v := x_5) (lv' := [(5, .int x_5), (0, .ref h_this), (1, .int p0), (2, .int p1), (3, .int p2), (4, .int p3)]) hx hb dX0_reckonWith_72 hl (k := 5) rfl (by rw [ex_5]; rfl) (by decide) rfl (fun ls hl => ?_)
      refine lv_goto (tgt := 3) hx hb dX0_reckonWith_75 (by decide) ?_
      obtain ⟨n1_, hlt_, hi_⟩ := vc
      exact ih_1 n1_ (x_5, f_3, f_4) hlt_ hi_ _ _ hP hD hS ls (lv_sub hl [1, 2, 3, 4, 5, 0] rfl)
    · replace vc := vc.2 c_
      refine lv_iload hx hb dX0_reckonWith_18 (lv_at hl 5 rfl) ?_
      refine lv_iload_n hx hb dX0_reckonWith_20 rfl (lv_at hl 1 rfl) ?_
      refine lv_ior hx hb dX0_reckonWith_21 ?_
      refine lv_topi (fun x_6 ex_6 => ?_)
      replace vc := vc x_6 ex_6
      refine lv_istore (lv' := [(6, .int x_6), (0, .ref h_this), (1, .int p0), (2, .int p1), (3, .int p2), (4, .int p3), (5, .int i_2)]) hx hb dX0_reckonWith_22 hl (by decide) rfl (fun ls hl => ?_)
      refine lv_aload_n hx hb dX0_reckonWith_24 rfl (lv_at hl 1 rfl) ?_
      refine va_get (D := D) (ci := 0) (v := .ref h_this_stitchesOf) (C := RX0) (T := TX0) (N := 7) hx hb hts mcX0_reckonWith_X0 hown hK.1 hP 0 rfl rfl 4 (by decide) (hts _ mwX0_reckonWith_1) (fun _ h9 => h9) rfl dX0_reckonWith_25 ?_
      refine lv_iload hx hb dX0_reckonWith_28 (lv_at hl 0 rfl) ?_
      refine lv_aload_n hx hb dX0_reckonWith_30 rfl (lv_at hl 1 rfl) ?_
      refine va_get (D := D) (ci := 0) (v := .ref h_this_stitchesOf) (C := RX0) (T := TX0) (N := 7) hx hb hts mcX0_reckonWith_X0 hown hK.1 hP 0 rfl rfl 4 (by decide) (hts _ mwX0_reckonWith_1) (fun _ h9 => h9) rfl dX0_reckonWith_31 ?_
      refine lv_iload hx hb dX0_reckonWith_34 (lv_at hl 6 rfl) ?_
      have hi_7 := vc.1
      replace vc := vc.2
      refine va_iald hx hb hK.1 hP 2 0 rfl rfl hi_7 dX0_reckonWith_36 ?_
      refine lv_iload_n hx hb dX0_reckonWith_37 rfl (lv_at hl 3 rfl) ?_
      refine lv_ior hx hb dX0_reckonWith_38 ?_
      refine lv_topi (fun x_8 ex_8 => ?_)
      replace vc := vc x_8 ex_8
      have hi_9 := vc.1
      replace vc := vc.2
      refine va_iast hx hb hK.1 hP hD hS 2 0 rfl rfl hi_9 dX0_reckonWith_39 (fun H locs hP hD hS => ?_)
      have hP : va_P D vwCl [(h_this, .inr (0, [.int v_leastBorders, .int v_firstInRow, .ref h_this_between, .ref h_this_rowOf, .ref h_this_stitchesOf, .ref h_this_parishesOf, .ref h_this_weightOf])), (h_this_parishesOf, .inl (cI, 1024, .inl f_3)), (h_this_stitchesOf, .inl (cI, 1024, .inl (upd f_4 (x_6).toNatClampNeg x_8)))] H := hP
      have hD : va_D A [(h_this, .inr (0, [.int v_leastBorders, .int v_firstInRow, .ref h_this_between, .ref h_this_rowOf, .ref h_this_stitchesOf, .ref h_this_parishesOf, .ref h_this_weightOf])), (h_this_parishesOf, .inl (cI, 1024, .inl f_3)), (h_this_stitchesOf, .inl (cI, 1024, .inl (upd f_4 (x_6).toNatClampNeg x_8)))] := hD
      refine lv_aload_n hx hb dX0_reckonWith_40 rfl (lv_at hl 1 rfl) ?_
      refine va_get (D := D) (ci := 0) (v := .ref h_this_parishesOf) (C := RX0) (T := TX0) (N := 7) hx hb hts mcX0_reckonWith_X0 hown hK.1 hP 0 rfl rfl 5 (by decide) (hts _ mwX0_reckonWith_2) (fun _ h9 => h9) rfl dX0_reckonWith_41 ?_
      refine lv_iload hx hb dX0_reckonWith_44 (lv_at hl 0 rfl) ?_
      refine lv_aload_n hx hb dX0_reckonWith_46 rfl (lv_at hl 1 rfl) ?_
      refine va_get (D := D) (ci := 0) (v := .ref h_this_stitchesOf) (C := RX0) (T := TX0) (N := 7) hx hb hts mcX0_reckonWith_X0 hown hK.1 hP 0 rfl rfl 4 (by decide) (hts _ mwX0_reckonWith_1) (fun _ h9 => h9) rfl dX0_reckonWith_47 ?_
      refine lv_iload hx hb dX0_reckonWith_50 (lv_at hl 0 rfl) ?_
      have hi_10 := vc.1
      replace vc := vc.2
      refine va_iald hx hb hK.1 hP 2 0 rfl rfl hi_10 dX0_reckonWith_52 ?_
      refine lv_iload hx hb dX0_reckonWith_53 (lv_at hl 5 rfl) ?_
      refine lv_icmp_ne (tgt := 70) hx hb dX0_reckonWith_55 (by decide) (fun c_ => ?_) (fun c_ => ?_)
      · replace vc := vc.1 c_
        refine lv_iconst (v := (0 : Int32)) hx hb dX0_reckonWith_70 (by decide) ?_
        have hi_11 := vc.1
        replace vc := vc.2
        refine va_iast hx hb hK.1 hP hD hS 1 0 rfl rfl hi_11 dX0_reckonWith_71 (fun H locs hP hD hS => ?_)
        have hP : va_P D vwCl [(h_this, .inr (0, [.int v_leastBorders, .int v_firstInRow, .ref h_this_between, .ref h_this_rowOf, .ref h_this_stitchesOf, .ref h_this_parishesOf, .ref h_this_weightOf])), (h_this_parishesOf, .inl (cI, 1024, .inl (upd f_3 (x_6).toNatClampNeg (0 : Int32)))), (h_this_stitchesOf, .inl (cI, 1024, .inl (upd f_4 (x_6).toNatClampNeg x_8)))] H := hP
        have hD : va_D A [(h_this, .inr (0, [.int v_leastBorders, .int v_firstInRow, .ref h_this_between, .ref h_this_rowOf, .ref h_this_stitchesOf, .ref h_this_parishesOf, .ref h_this_weightOf])), (h_this_parishesOf, .inl (cI, 1024, .inl (upd f_3 (x_6).toNatClampNeg (0 : Int32)))), (h_this_stitchesOf, .inl (cI, 1024, .inl (upd f_4 (x_6).toNatClampNeg x_8)))] := hD
        obtain ⟨x_12, ex_12⟩ : ∃ y_ : Int32, y_ = (i_2 + (1 : Int32)) := ⟨_, rfl⟩
        replace vc := vc x_12 ex_12
        refine lv_iinc (v := x_12) (lv' := [(5, .int x_12), (6, .int x_6), (0, .ref h_this), (1, .int p0), (2, .int p1), (3, .int p2), (4, .int p3)]) hx hb dX0_reckonWith_72 hl (k := 6) rfl (by rw [ex_12]; rfl) (by decide) rfl (fun ls hl => ?_)
        refine lv_goto (tgt := 3) hx hb dX0_reckonWith_75 (by decide) ?_
        obtain ⟨n1_, hlt_, hi_⟩ := vc
        exact ih_1 n1_ (x_12, (upd f_3 (x_6).toNatClampNeg (0 : Int32)), (upd f_4 (x_6).toNatClampNeg x_8)) hlt_ hi_ _ _ hP hD hS ls (lv_sub hl [2, 3, 4, 5, 6, 0] rfl)
      · replace vc := vc.2 c_
        refine lv_aload_n hx hb dX0_reckonWith_58 rfl (lv_at hl 1 rfl) ?_
        refine lv_iload_n hx hb dX0_reckonWith_59 rfl (lv_at hl 2 rfl) ?_
        refine lv_iload hx hb dX0_reckonWith_60 (lv_at hl 6 rfl) ?_
        refine lv_iload hx hb dX0_reckonWith_62 (lv_at hl 5 rfl) ?_
        refine kj_i (wr := []) (rest := [.int x_6, .ref h_this_parishesOf]) (kV ⟨hx, hb, hml, hown, hts⟩ (kX0_mostWith _ h_this h_this_between h_this_rowOf h_this_stitchesOf h_this_parishesOf h_this_weightOf p0 i_2 p3 v_leastBorders v_firstInRow f_3 (upd f_4 (x_6).toNatClampNeg x_8) vc.1) (cwV 3 hts gX0_reckonWith_X0_mostWith rfl rfl rfl (by decide +kernel) ⟨(Nat.le_of_ble_eq_true rfl), (Nat.le_of_ble_eq_true rfl)⟩) hK hP hD [0, 1, 2] rfl rfl 0 0 rfl rfl rfl rfl rfl hl.1 (Nat.le_of_ble_eq_true rfl) dX0_reckonWith_64 ⟨(Nat.le_of_ble_eq_true rfl), (Nat.le_of_ble_eq_true rfl)⟩) hP hD hS hA [0, 1, 2] [] rfl rfl rfl rfl (fun r_13 u_ H locs hq_ hP hD hS => ?_)
        replace vc := vc.2 r_13  hq_
        have hP : va_P D vwCl [(h_this, .inr (0, [.int v_leastBorders, .int v_firstInRow, .ref h_this_between, .ref h_this_rowOf, .ref h_this_stitchesOf, .ref h_this_parishesOf, .ref h_this_weightOf])), (h_this_parishesOf, .inl (cI, 1024, .inl f_3)), (h_this_stitchesOf, .inl (cI, 1024, .inl (upd f_4 (x_6).toNatClampNeg x_8)))] H := hP
        have hD : va_D A [(h_this, .inr (0, [.int v_leastBorders, .int v_firstInRow, .ref h_this_between, .ref h_this_rowOf, .ref h_this_stitchesOf, .ref h_this_parishesOf, .ref h_this_weightOf])), (h_this_parishesOf, .inl (cI, 1024, .inl f_3)), (h_this_stitchesOf, .inl (cI, 1024, .inl (upd f_4 (x_6).toNatClampNeg x_8)))] := hD
        refine lv_goto (tgt := 71) hx hb dX0_reckonWith_67 (by decide) ?_
        have hi_14 := vc.1
        replace vc := vc.2
        refine va_iast hx hb hK.1 hP hD hS 1 0 rfl rfl hi_14 dX0_reckonWith_71 (fun H locs hP hD hS => ?_)
        have hP : va_P D vwCl [(h_this, .inr (0, [.int v_leastBorders, .int v_firstInRow, .ref h_this_between, .ref h_this_rowOf, .ref h_this_stitchesOf, .ref h_this_parishesOf, .ref h_this_weightOf])), (h_this_parishesOf, .inl (cI, 1024, .inl (upd f_3 (x_6).toNatClampNeg r_13))), (h_this_stitchesOf, .inl (cI, 1024, .inl (upd f_4 (x_6).toNatClampNeg x_8)))] H := hP
        have hD : va_D A [(h_this, .inr (0, [.int v_leastBorders, .int v_firstInRow, .ref h_this_between, .ref h_this_rowOf, .ref h_this_stitchesOf, .ref h_this_parishesOf, .ref h_this_weightOf])), (h_this_parishesOf, .inl (cI, 1024, .inl (upd f_3 (x_6).toNatClampNeg r_13))), (h_this_stitchesOf, .inl (cI, 1024, .inl (upd f_4 (x_6).toNatClampNeg x_8)))] := hD
        obtain ⟨x_15, ex_15⟩ : ∃ y_ : Int32, y_ = (i_2 + (1 : Int32)) := ⟨_, rfl⟩
        replace vc := vc x_15 ex_15
        refine lv_iinc (v := x_15) (lv' := [(5, .int x_15), (6, .int x_6), (0, .ref h_this), (1, .int p0), (2, .int p1), (3, .int p2), (4, .int p3)]) hx hb dX0_reckonWith_72 hl (k := 6) rfl (by rw [ex_15]; rfl) (by decide) rfl (fun ls hl => ?_)
        refine lv_goto (tgt := 3) hx hb dX0_reckonWith_75 (by decide) ?_
        obtain ⟨n1_, hlt_, hi_⟩ := vc
        exact ih_1 n1_ (x_15, (upd f_3 (x_6).toNatClampNeg r_13), (upd f_4 (x_6).toNatClampNeg x_8)) hlt_ hi_ _ _ hP hD hS ls (lv_sub hl [2, 3, 4, 5, 6, 0] rfl)

theorem mwX0_mostUnions_1 : Cond.fieldLink RX0 18 "HassockSee$Arrangements" "stitchesOf" "[I" ∈ wsX0_mostUnions := List.mem_of_getElem? (i := 1) rfl
theorem mwX0_mostUnions_2 : Cond.fieldLink RX0 21 "HassockSee$Arrangements" "parishesOf" "[I" ∈ wsX0_mostUnions := List.mem_of_getElem? (i := 2) rfl
theorem mwX0_mostUnions_3 : Cond.fieldLink RX0 51 "HassockSee$Diocese" "stitches" "[I" ∈ wsX0_mostUnions := List.mem_of_getElem? (i := 3) rfl
theorem mwX0_mostUnions_4 : Cond.static yX8_isIn ∈ wsX0_mostUnions := List.mem_of_getElem? (i := 4) rfl
theorem mwX0_mostUnions_5 : Cond.initialized RX8 ∈ wsX0_mostUnions := List.mem_of_getElem? (i := 5) rfl
theorem mcX0_mostUnions_X0 : ∀ w ∈ u_ws RX0 TX0 7, w ∈ wsX0_mostUnions := fun _ h => (List.mem_cons_of_mem _ (List.mem_append_left _ (List.mem_append_right _ h)))
theorem mcX0_mostUnions_X1 : ∀ w ∈ u_ws RX1 TX1 6, w ∈ wsX0_mostUnions := fun _ h => (List.mem_cons_of_mem _ (List.mem_append_right _ h))
def KX0_mostUnions (l : Launch) (D : va_G) (cI cZ : ClassId) (P : Int32 → Int32 → (Nat → Int32) → (Nat → Int32) → (Nat → Int32) → Prop) (Q : Int32 → Int32 → (Nat → Int32) → (Nat → Int32) → (Nat → Int32) → Int32 → (Nat → Int32) → (Nat → Int32) → Prop) : Prop := ∀ (sz : Nat) (h_this h_a0 h_this_between h_this_rowOf h_this_stitchesOf h_this_parishesOf h_this_weightOf h_a0_wool h_a0_stitches h_a0_place : Nat) (p1 : Int32) (p2 : Int32) (v_leastBorders : Int32) (v_firstInRow : Int32) (v_parishesOf : (Nat → Int32)) (v_stitchesOf : (Nat → Int32)) (v_a0_there : Int32) (v_a0_hair : Int32) (v_a0_year : Int32) (v_a0_stitches : (Nat → Int32)), P p1 p2 v_parishesOf v_stitchesOf v_a0_stitches → MI l yX0_mostUnions wsX0_mostUnions ({ frames := 3, cells := 0, slots := 0, locals := 92 }) [.ref h_this, .ref h_a0, .int p1, .int p2] D cI cZ sz [(h_this, .inr (0, [.int v_leastBorders, .int v_firstInRow, .ref h_this_between, .ref h_this_rowOf, .ref h_this_stitchesOf, .ref h_this_parishesOf, .ref h_this_weightOf])), (h_this_parishesOf, .inl (cI, 1024, .inl v_parishesOf)), (h_this_stitchesOf, .inl (cI, 1024, .inl v_stitchesOf)), (h_a0, .inr (1, [.int v_a0_there, .int v_a0_hair, .int v_a0_year, .ref h_a0_wool, .ref h_a0_stitches, .ref h_a0_place])), (h_a0_stitches, .inl (cI, 10, .inl v_a0_stitches))] (fun r (u : (Nat → Int32) × (Nat → Int32)) => Q p1 p2 v_parishesOf v_stitchesOf v_a0_stitches r (u.1) (u.2)) (fun u => [(h_this, .inr (0, [.int v_leastBorders, .int v_firstInRow, .ref h_this_between, .ref h_this_rowOf, .ref h_this_stitchesOf, .ref h_this_parishesOf, .ref h_this_weightOf])), (h_this_parishesOf, .inl (cI, 1024, .inl (u.1))), (h_this_stitchesOf, .inl (cI, 1024, .inl (u.2))), (h_a0, .inr (1, [.int v_a0_there, .int v_a0_hair, .int v_a0_year, .ref h_a0_wool, .ref h_a0_stitches, .ref h_a0_place])), (h_a0_stitches, .inl (cI, 10, .inl v_a0_stitches))]) 0 0
set_option maxHeartbeats 4000000 in
set_option maxRecDepth 100000 in
theorem walkX0_mostUnions {l : Launch} {D : va_G} {cI cZ : ClassId} {PX0_mostUnions : Int32 → Int32 → (Nat → Int32) → (Nat → Int32) → (Nat → Int32) → Prop} {QX0_mostUnions : Int32 → Int32 → (Nat → Int32) → (Nat → Int32) → (Nat → Int32) → Int32 → (Nat → Int32) → (Nat → Int32) → Prop} {PX8_isIn : Int32 → Int32 → Prop} {QX8_isIn : Int32 → Int32 → Int32 → Prop} {PX0_reckonWith : Int32 → Int32 → Int32 → Int32 → (Nat → Int32) → (Nat → Int32) → Prop} {QX0_reckonWith : Int32 → Int32 → Int32 → Int32 → (Nat → Int32) → (Nat → Int32) → (Nat → Int32) → (Nat → Int32) → Prop} (kX8_isIn : KX8_isIn l D cI cZ PX8_isIn QX8_isIn) (kX0_reckonWith : KX0_reckonWith l D cI cZ PX0_reckonWith QX0_reckonWith) (IX0_mostUnions_17 : Int32 → Int32 → (Nat → Int32) → (Nat → Int32) → (Nat → Int32) → Nat → Int32 → Int32 → Int32 → (Nat → Int32) → (Nat → Int32) → Prop) (hvc : ∀ (p1 : Int32) (p2 : Int32) (v_parishesOf : (Nat → Int32)) (v_stitchesOf : (Nat → Int32)) (v_a0_stitches : (Nat → Int32)), PX0_mostUnions p1 p2 v_parishesOf v_stitchesOf v_a0_stitches → ((∃ n0 : Nat, IX0_mostUnions_17 p1 p2 v_parishesOf v_stitchesOf v_a0_stitches n0 p1 p2 (0 : Int32) (upd v_parishesOf ((0 : Int32)).toNatClampNeg (0 : Int32)) (upd v_stitchesOf ((0 : Int32)).toNatClampNeg (0 : Int32))) ∧ (∀ (n_1 : Nat) (i_2 : Int32) (f_3 : (Nat → Int32)) (f_4 : (Nat → Int32)), (IX0_mostUnions_17 p1 p2 v_parishesOf v_stitchesOf v_a0_stitches n_1 p1 p2 i_2 f_3 f_4 → (((10 : Int32) ≤ i_2 → (vp_in p1 1024 ∧ (QX0_mostUnions p1 p2 v_parishesOf v_stitchesOf v_a0_stitches (f_3 (p1).toNatClampNeg) f_3 f_4))) ∧ (¬ (10 : Int32) ≤ i_2 → (PX8_isIn p1 i_2 ∧ (∀ r_6 : Int32, QX8_isIn p1 i_2 r_6 → ((r_6 = 0 → (∀ x_7 : Int32, x_7 = (i_2 + (1 : Int32)) → (∃ n1 : Nat, n1 < n_1 ∧ IX0_mostUnions_17 p1 p2 v_parishesOf v_stitchesOf v_a0_stitches n1 p1 p2 x_7 f_3 f_4))) ∧ (¬ r_6 = 0 → (vp_in i_2 10 ∧ (PX0_reckonWith ((1 : Int32) <<< (i_2 &&& 31)) ((v_a0_stitches (i_2).toNatClampNeg) &&& p2) p1 p2 f_3 f_4 ∧ (∀ (f_9 : (Nat → Int32)) (f_10 : (Nat → Int32)), QX0_reckonWith ((1 : Int32) <<< (i_2 &&& 31)) ((v_a0_stitches (i_2).toNatClampNeg) &&& p2) p1 p2 f_3 f_4 f_9 f_10 → (∀ x_11 : Int32, x_11 = (i_2 + (1 : Int32)) → (∃ n1 : Nat, n1 < n_1 ∧ IX0_mostUnions_17 p1 p2 v_parishesOf v_stitchesOf v_a0_stitches n1 p1 p2 x_11 f_9 f_10))))))))))))))) : KX0_mostUnions l D cI cZ PX0_mostUnions QX0_mostUnions := by
  intro sz h_this h_a0 h_this_between h_this_rowOf h_this_stitchesOf h_this_parishesOf h_this_weightOf h_a0_wool h_a0_stitches h_a0_place p1 p2 v_leastBorders v_firstInRow v_parishesOf v_stitchesOf v_a0_there v_a0_hair v_a0_year v_a0_stitches hpre
  have vc := hvc p1 p2 v_parishesOf v_stitchesOf v_a0_stitches hpre
  clear hvc
  refine Met.ofW (cc := cX0_mostUnions) (maxL := 5) (ret := (some .int)) (by decide) rfl ?_
  intro p e s m args below meth c s₁ B hml hv
  obtain ⟨rfl, hsz, hP, hK, hD0⟩ := hv
  have hx := B.exec
  have hb := B.bytes
  have hr := B.returns
  have hts := atoms_spec (ws := wsX0_mostUnions) B.pre
  have hown : s.vm.findClass RX0 = some m.cls := findClass_of_methodNamed B.named
  have hlocks := B.notSynchronized
  subst hsz
  have hD := hD0.self (sz := s.heap.size)
  generalize hAe : va_A [(h_this, .inr (0, [.int v_leastBorders, .int v_firstInRow, .ref h_this_between, .ref h_this_rowOf, .ref h_this_stitchesOf, .ref h_this_parishesOf, .ref h_this_weightOf])), (h_this_parishesOf, .inl (cI, 1024, .inl v_parishesOf)), (h_this_stitchesOf, .inl (cI, 1024, .inl v_stitchesOf)), (h_a0, .inr (1, [.int v_a0_there, .int v_a0_hair, .int v_a0_year, .ref h_a0_wool, .ref h_a0_stitches, .ref h_a0_place])), (h_a0_stitches, .inl (cI, 10, .inl v_a0_stitches))] s.heap.size = A at hD ⊢
  have hA : ∀ q : Nat, s.heap.size ≤ q → A q := fun q h => by rw [← hAe]; exact Or.inr h
  have hS : va_S A s.heap s.heap [] := va_S.rf
  have hP : va_P D vwCl [(h_this, .inr (0, [.int v_leastBorders, .int v_firstInRow, .ref h_this_between, .ref h_this_rowOf, .ref h_this_stitchesOf, .ref h_this_parishesOf, .ref h_this_weightOf])), (h_this_parishesOf, .inl (cI, 1024, .inl v_parishesOf)), (h_this_stitchesOf, .inl (cI, 1024, .inl v_stitchesOf)), (h_a0, .inr (1, [.int v_a0_there, .int v_a0_hair, .int v_a0_year, .ref h_a0_wool, .ref h_a0_stitches, .ref h_a0_place])), (h_a0_stitches, .inl (cI, 10, .inl v_a0_stitches))] s.heap := hP
  have hl := lv_entry ([.ref h_this, .ref h_a0, .int p1, .int p2]) (n := 5) (Nat.le_of_ble_eq_true rfl)
  rw [lg_entry_eq]
  generalize (lg_sl ([.ref h_this, .ref h_a0, .int p1, .int p2]) ++ List.replicate (5 - (lg_sl ([.ref h_this, .ref h_a0, .int p1, .int p2])).length) Slot.unset).toArray = ls at hl ⊢
  have hl : lv_has ls 5 [(0, .ref h_this), (1, .ref h_a0), (2, .int p1), (3, .int p2)] := hl
  refine lv_aload_n hx hb dX0_mostUnions_0 rfl (lv_at hl 0 rfl) ?_
  refine va_get (D := D) (ci := 0) (v := .ref h_this_stitchesOf) (C := RX0) (T := TX0) (N := 7) hx hb hts mcX0_mostUnions_X0 hown hK.1 hP 0 rfl rfl 4 (by decide) (hts _ mwX0_mostUnions_1) (fun _ h9 => h9) rfl dX0_mostUnions_1 ?_
  refine lv_iconst (v := (0 : Int32)) hx hb dX0_mostUnions_4 (by decide) ?_
  refine lv_iconst (v := (0 : Int32)) hx hb dX0_mostUnions_5 (by decide) ?_
  refine va_iast hx hb hK.1 hP hD hS 2 0 rfl rfl (vpd (by decide)) dX0_mostUnions_6 (fun H locs hP hD hS => ?_)
  have hP : va_P D vwCl [(h_this, .inr (0, [.int v_leastBorders, .int v_firstInRow, .ref h_this_between, .ref h_this_rowOf, .ref h_this_stitchesOf, .ref h_this_parishesOf, .ref h_this_weightOf])), (h_this_parishesOf, .inl (cI, 1024, .inl v_parishesOf)), (h_this_stitchesOf, .inl (cI, 1024, .inl (upd v_stitchesOf ((0 : Int32)).toNatClampNeg (0 : Int32)))), (h_a0, .inr (1, [.int v_a0_there, .int v_a0_hair, .int v_a0_year, .ref h_a0_wool, .ref h_a0_stitches, .ref h_a0_place])), (h_a0_stitches, .inl (cI, 10, .inl v_a0_stitches))] H := hP
  have hD : va_D A [(h_this, .inr (0, [.int v_leastBorders, .int v_firstInRow, .ref h_this_between, .ref h_this_rowOf, .ref h_this_stitchesOf, .ref h_this_parishesOf, .ref h_this_weightOf])), (h_this_parishesOf, .inl (cI, 1024, .inl v_parishesOf)), (h_this_stitchesOf, .inl (cI, 1024, .inl (upd v_stitchesOf ((0 : Int32)).toNatClampNeg (0 : Int32)))), (h_a0, .inr (1, [.int v_a0_there, .int v_a0_hair, .int v_a0_year, .ref h_a0_wool, .ref h_a0_stitches, .ref h_a0_place])), (h_a0_stitches, .inl (cI, 10, .inl v_a0_stitches))] := hD
  refine lv_aload_n hx hb dX0_mostUnions_7 rfl (lv_at hl 0 rfl) ?_
  refine va_get (D := D) (ci := 0) (v := .ref h_this_parishesOf) (C := RX0) (T := TX0) (N := 7) hx hb hts mcX0_mostUnions_X0 hown hK.1 hP 0 rfl rfl 5 (by decide) (hts _ mwX0_mostUnions_2) (fun _ h9 => h9) rfl dX0_mostUnions_8 ?_
  refine lv_iconst (v := (0 : Int32)) hx hb dX0_mostUnions_11 (by decide) ?_
  refine lv_iconst (v := (0 : Int32)) hx hb dX0_mostUnions_12 (by decide) ?_
  refine va_iast hx hb hK.1 hP hD hS 1 0 rfl rfl (vpd (by decide)) dX0_mostUnions_13 (fun H locs hP hD hS => ?_)
  have hP : va_P D vwCl [(h_this, .inr (0, [.int v_leastBorders, .int v_firstInRow, .ref h_this_between, .ref h_this_rowOf, .ref h_this_stitchesOf, .ref h_this_parishesOf, .ref h_this_weightOf])), (h_this_parishesOf, .inl (cI, 1024, .inl (upd v_parishesOf ((0 : Int32)).toNatClampNeg (0 : Int32)))), (h_this_stitchesOf, .inl (cI, 1024, .inl (upd v_stitchesOf ((0 : Int32)).toNatClampNeg (0 : Int32)))), (h_a0, .inr (1, [.int v_a0_there, .int v_a0_hair, .int v_a0_year, .ref h_a0_wool, .ref h_a0_stitches, .ref h_a0_place])), (h_a0_stitches, .inl (cI, 10, .inl v_a0_stitches))] H := hP
  have hD : va_D A [(h_this, .inr (0, [.int v_leastBorders, .int v_firstInRow, .ref h_this_between, .ref h_this_rowOf, .ref h_this_stitchesOf, .ref h_this_parishesOf, .ref h_this_weightOf])), (h_this_parishesOf, .inl (cI, 1024, .inl (upd v_parishesOf ((0 : Int32)).toNatClampNeg (0 : Int32)))), (h_this_stitchesOf, .inl (cI, 1024, .inl (upd v_stitchesOf ((0 : Int32)).toNatClampNeg (0 : Int32)))), (h_a0, .inr (1, [.int v_a0_there, .int v_a0_hair, .int v_a0_year, .ref h_a0_wool, .ref h_a0_stitches, .ref h_a0_place])), (h_a0_stitches, .inl (cI, 10, .inl v_a0_stitches))] := hD
  refine lv_iconst (v := (0 : Int32)) hx hb dX0_mostUnions_14 (by decide) ?_
  refine lv_istore (lv' := [(4, .int (0 : Int32)), (0, .ref h_this), (1, .ref h_a0), (2, .int p1), (3, .int p2)]) hx hb dX0_mostUnions_15 hl (by decide) rfl (fun ls hl => ?_)
  obtain ⟨⟨n0_1, hi0_1⟩, vc⟩ := vc
  refine kloop (V := Int32 × (Nat → Int32) × (Nat → Int32)) (I := fun n v => IX0_mostUnions_17 p1 p2 v_parishesOf v_stitchesOf v_a0_stitches n p1 p2 (v.1) (v.2.1) (v.2.2)) (wv := fun v => [(h_this, .inr (0, [.int v_leastBorders, .int v_firstInRow, .ref h_this_between, .ref h_this_rowOf, .ref h_this_stitchesOf, .ref h_this_parishesOf, .ref h_this_weightOf])), (h_this_parishesOf, .inl (cI, 1024, .inl (v.2.1))), (h_this_stitchesOf, .inl (cI, 1024, .inl (v.2.2))), (h_a0, .inr (1, [.int v_a0_there, .int v_a0_hair, .int v_a0_year, .ref h_a0_wool, .ref h_a0_stitches, .ref h_a0_place])), (h_a0_stitches, .inl (cI, 10, .inl v_a0_stitches))]) (lv := fun v => [(0, .ref h_this), (1, .ref h_a0), (2, .int p1), (3, .int p2), (4, .int (v.1))]) n0_1 ((0 : Int32), (upd v_parishesOf ((0 : Int32)).toNatClampNeg (0 : Int32)), (upd v_stitchesOf ((0 : Int32)).toNatClampNeg (0 : Int32))) hi0_1 hP hD hS (lv_sub hl [1, 2, 3, 4, 0] rfl) ?_
  intro n_1 v_1 hi_1 ih_1 H locs hP hD hS ls hl
  obtain ⟨i_2, f_3, f_4⟩ := v_1
  replace vc := vc n_1 i_2 f_3 f_4 hi_1
  have hP : va_P D vwCl [(h_this, .inr (0, [.int v_leastBorders, .int v_firstInRow, .ref h_this_between, .ref h_this_rowOf, .ref h_this_stitchesOf, .ref h_this_parishesOf, .ref h_this_weightOf])), (h_this_parishesOf, .inl (cI, 1024, .inl f_3)), (h_this_stitchesOf, .inl (cI, 1024, .inl f_4)), (h_a0, .inr (1, [.int v_a0_there, .int v_a0_hair, .int v_a0_year, .ref h_a0_wool, .ref h_a0_stitches, .ref h_a0_place])), (h_a0_stitches, .inl (cI, 10, .inl v_a0_stitches))] H := hP
  have hD : va_D A [(h_this, .inr (0, [.int v_leastBorders, .int v_firstInRow, .ref h_this_between, .ref h_this_rowOf, .ref h_this_stitchesOf, .ref h_this_parishesOf, .ref h_this_weightOf])), (h_this_parishesOf, .inl (cI, 1024, .inl f_3)), (h_this_stitchesOf, .inl (cI, 1024, .inl f_4)), (h_a0, .inr (1, [.int v_a0_there, .int v_a0_hair, .int v_a0_year, .ref h_a0_wool, .ref h_a0_stitches, .ref h_a0_place])), (h_a0_stitches, .inl (cI, 10, .inl v_a0_stitches))] := hD
  have hl : lv_has ls 5 [(0, .ref h_this), (1, .ref h_a0), (2, .int p1), (3, .int p2), (4, .int i_2)] := hl
  refine lv_iload hx hb dX0_mostUnions_17 (lv_at hl 4 rfl) ?_
  refine lv_bipush (v := (10 : Int32)) hx hb dX0_mostUnions_19 (by decide) ?_
  refine lv_icmp_ge (tgt := 58) hx hb dX0_mostUnions_21 (by decide) (fun c_ => ?_) (fun c_ => ?_)
  · replace vc := vc.1 c_
    refine lv_aload_n hx hb dX0_mostUnions_58 rfl (lv_at hl 0 rfl) ?_
    refine va_get (D := D) (ci := 0) (v := .ref h_this_parishesOf) (C := RX0) (T := TX0) (N := 7) hx hb hts mcX0_mostUnions_X0 hown hK.1 hP 0 rfl rfl 5 (by decide) (hts _ mwX0_mostUnions_2) (fun _ h9 => h9) rfl dX0_mostUnions_59 ?_
    refine lv_iload_n hx hb dX0_mostUnions_62 rfl (lv_at hl 2 rfl) ?_
    have hi_5 := vc.1
    replace vc := vc.2
    refine va_iald hx hb hK.1 hP 1 0 rfl rfl hi_5 dX0_mostUnions_63 ?_
    exact W.iret (v := (f_3 (p1).toNatClampNeg)) hx hb hr (fun t ht hW => ⟨⟨(f_3 (p1).toNatClampNeg), (f_3, f_4), rfl, vc, QB_mk (hP.sub [0, 1, 2, 3, 4] rfl) (hD.sub [0, 1, 2, 3, 4] rfl rfl) ht⟩, hS.F ht⟩) hS.2.2 dX0_mostUnions_64
  · replace vc := vc.2 c_
    refine lv_iload_n hx hb dX0_mostUnions_24 rfl (lv_at hl 2 rfl) ?_
    refine lv_iload hx hb dX0_mostUnions_25 (lv_at hl 4 rfl) ?_
    refine kj0_i (rest := []) (kSN ⟨hx, hb, hml, hown, hts⟩ (kX8_isIn _ p1 i_2 vc.1) ⟨va_cnB 2 hts gX0_mostUnions_X8_isIn_n47 rfl rfl rfl (KK_n6 hK) (hts _ mwX0_mostUnions_5) (by decide +kernel) ⟨(Nat.le_of_ble_eq_true rfl), (Nat.le_of_ble_eq_true rfl)⟩, (hts _ mwX0_mostUnions_4), trivial⟩ hK rfl rfl hl.1 (Nat.le_of_ble_eq_true rfl) dX0_mostUnions_27 ⟨(Nat.le_of_ble_eq_true rfl), (Nat.le_of_ble_eq_true rfl)⟩) hP hS hA (fun r_6 H locs hq_ hP hS => ?_)
    replace vc := vc.2 r_6 hq_
    have hP : va_P D vwCl [(h_this, .inr (0, [.int v_leastBorders, .int v_firstInRow, .ref h_this_between, .ref h_this_rowOf, .ref h_this_stitchesOf, .ref h_this_parishesOf, .ref h_this_weightOf])), (h_this_parishesOf, .inl (cI, 1024, .inl f_3)), (h_this_stitchesOf, .inl (cI, 1024, .inl f_4)), (h_a0, .inr (1, [.int v_a0_there, .int v_a0_hair, .int v_a0_year, .ref h_a0_wool, .ref h_a0_stitches, .ref h_a0_place])), (h_a0_stitches, .inl (cI, 10, .inl v_a0_stitches))] H := hP
    refine lv_if_eq (tgt := 52) hx hb dX0_mostUnions_30 (by decide) (fun c_ => ?_) (fun c_ => ?_)
    · replace vc := vc.1 c_
      obtain ⟨x_7, ex_7⟩ : ∃ y_ : Int32, y_ = (i_2 + (1 : Int32)) := ⟨_, rfl⟩
      replace vc := vc x_7 ex_7
      refine lv_iinc (v := x_7) (lv' := [(4, .int x_7), (0, .ref h_this), (1, .ref h_a0), (2, .int p1), (3, .int p2)]) hx hb dX0_mostUnions_52 hl (k := 4) rfl (by rw [ex_7]; rfl) (by decide) rfl (fun ls hl => ?_)
      refine lv_goto (tgt := 17) hx hb dX0_mostUnions_55 (by decide) ?_
      obtain ⟨n1_, hlt_, hi_⟩ := vc
      exact ih_1 n1_ (x_7, f_3, f_4) hlt_ hi_ _ _ hP hD hS ls (lv_sub hl [1, 2, 3, 4, 0] rfl)
    · replace vc := vc.2 c_
      refine lv_aload_n hx hb dX0_mostUnions_33 rfl (lv_at hl 0 rfl) ?_
      refine lv_iconst (v := (1 : Int32)) hx hb dX0_mostUnions_34 (by decide) ?_
      refine lv_iload hx hb dX0_mostUnions_35 (lv_at hl 4 rfl) ?_
      refine lv_ishl hx hb dX0_mostUnions_37 ?_
      refine lv_aload_n hx hb dX0_mostUnions_38 rfl (lv_at hl 1 rfl) ?_
      refine va_get (D := D) (ci := 1) (v := .ref h_a0_stitches) (C := RX1) (T := TX1) (N := 6) hx hb hts mcX0_mostUnions_X1 hown hK.1 hP 3 rfl rfl 4 (by decide) (hts _ mwX0_mostUnions_3) (fun _ h9 => h9) rfl dX0_mostUnions_39 ?_
      refine lv_iload hx hb dX0_mostUnions_42 (lv_at hl 4 rfl) ?_
      have hi_8 := vc.1
      replace vc := vc.2
      refine va_iald hx hb hK.1 hP 4 0 rfl rfl hi_8 dX0_mostUnions_44 ?_
      refine lv_iload_n hx hb dX0_mostUnions_45 rfl (lv_at hl 3 rfl) ?_
      refine lv_iand hx hb dX0_mostUnions_46 ?_
      refine lv_iload_n hx hb dX0_mostUnions_47 rfl (lv_at hl 2 rfl) ?_
      refine lv_iload_n hx hb dX0_mostUnions_48 rfl (lv_at hl 3 rfl) ?_
      refine kj_v (wr := [(h_a0, .inr (1, [.int v_a0_there, .int v_a0_hair, .int v_a0_year, .ref h_a0_wool, .ref h_a0_stitches, .ref h_a0_place])), (h_a0_stitches, .inl (cI, 10, .inl v_a0_stitches))]) (rest := []) (kV ⟨hx, hb, hml, hown, hts⟩ (kX0_reckonWith _ h_this h_this_between h_this_rowOf h_this_stitchesOf h_this_parishesOf h_this_weightOf ((1 : Int32) <<< (i_2 &&& 31)) ((v_a0_stitches (i_2).toNatClampNeg) &&& p2) p1 p2 v_leastBorders v_firstInRow f_3 f_4 vc.1) (cwV 4 hts gX0_mostUnions_X0_reckonWith rfl rfl rfl (by decide +kernel) ⟨(Nat.le_of_ble_eq_true rfl), (Nat.le_of_ble_eq_true rfl)⟩) hK hP hD [0, 1, 2] rfl rfl 0 0 rfl rfl rfl rfl rfl hl.1 (Nat.le_of_ble_eq_true rfl) dX0_mostUnions_49 ⟨(Nat.le_of_ble_eq_true rfl), (Nat.le_of_ble_eq_true rfl)⟩) hP hD hS hA [0, 1, 2] [3, 4] rfl rfl rfl rfl (fun u_ H locs hq_ hP hD hS => ?_)
      obtain ⟨f_9, f_10⟩ := u_
      replace vc := vc.2  f_9 f_10 hq_
      refine W.widen (k := 0) (n := 0) (Nat.le_of_ble_eq_true rfl) (Nat.le_of_ble_eq_true rfl) ?_
      have hP : va_P D vwCl [(h_a0, .inr (1, [.int v_a0_there, .int v_a0_hair, .int v_a0_year, .ref h_a0_wool, .ref h_a0_stitches, .ref h_a0_place])), (h_a0_stitches, .inl (cI, 10, .inl v_a0_stitches)), (h_this, .inr (0, [.int v_leastBorders, .int v_firstInRow, .ref h_this_between, .ref h_this_rowOf, .ref h_this_stitchesOf, .ref h_this_parishesOf, .ref h_this_weightOf])), (h_this_parishesOf, .inl (cI, 1024, .inl f_9)), (h_this_stitchesOf, .inl (cI, 1024, .inl f_10))] H := hP
      have hD : va_D A [(h_a0, .inr (1, [.int v_a0_there, .int v_a0_hair, .int v_a0_year, .ref h_a0_wool, .ref h_a0_stitches, .ref h_a0_place])), (h_a0_stitches, .inl (cI, 10, .inl v_a0_stitches)), (h_this, .inr (0, [.int v_leastBorders, .int v_firstInRow, .ref h_this_between, .ref h_this_rowOf, .ref h_this_stitchesOf, .ref h_this_parishesOf, .ref h_this_weightOf])), (h_this_parishesOf, .inl (cI, 1024, .inl f_9)), (h_this_stitchesOf, .inl (cI, 1024, .inl f_10))] := hD
      obtain ⟨x_11, ex_11⟩ : ∃ y_ : Int32, y_ = (i_2 + (1 : Int32)) := ⟨_, rfl⟩
      replace vc := vc x_11 ex_11
      refine lv_iinc (v := x_11) (lv' := [(4, .int x_11), (0, .ref h_this), (1, .ref h_a0), (2, .int p1), (3, .int p2)]) hx hb dX0_mostUnions_52 hl (k := 4) rfl (by rw [ex_11]; rfl) (by decide) rfl (fun ls hl => ?_)
      refine lv_goto (tgt := 17) hx hb dX0_mostUnions_55 (by decide) ?_
      obtain ⟨n1_, hlt_, hi_⟩ := vc
      exact ih_1 n1_ (x_11, f_9, f_10) hlt_ hi_ _ _ (hP.sub [2, 3, 4, 0, 1] rfl) (hD.sub [2, 3, 4, 0, 1] rfl rfl) hS ls (lv_sub hl [1, 2, 3, 4, 0] rfl)

theorem mwX0_mostParishes_1 : Cond.fieldLink RX0 51 "HassockSee$Diocese" "stitches" "[I" ∈ wsX0_mostParishes := List.mem_of_getElem? (i := 1) rfl
theorem mwX0_mostParishes_2 : Cond.fieldLink RX0 27 "HassockSee$Diocese" "there" "I" ∈ wsX0_mostParishes := List.mem_of_getElem? (i := 2) rfl
theorem mwX0_mostParishes_3 : Cond.static yX8_isIn ∈ wsX0_mostParishes := List.mem_of_getElem? (i := 3) rfl
theorem mwX0_mostParishes_4 : Cond.initialized RX8 ∈ wsX0_mostParishes := List.mem_of_getElem? (i := 4) rfl
theorem mcX0_mostParishes_X1 : ∀ w ∈ u_ws RX1 TX1 6, w ∈ wsX0_mostParishes := fun _ h => (List.mem_cons_of_mem _ (List.mem_append_left _ (List.mem_append_right _ h)))
def KX0_mostParishes (l : Launch) (D : va_G) (cI cZ : ClassId) (P : Int32 → (Nat → Int32) → (Nat → Int32) → Int32 → (Nat → Int32) → Prop) (Q : Int32 → (Nat → Int32) → (Nat → Int32) → Int32 → (Nat → Int32) → Int32 → (Nat → Int32) → (Nat → Int32) → Prop) : Prop := ∀ (sz : Nat) (h_this h_a0 h_this_between h_this_rowOf h_this_stitchesOf h_this_parishesOf h_this_weightOf h_a0_wool h_a0_stitches h_a0_place : Nat) (p1 : Int32) (v_leastBorders : Int32) (v_firstInRow : Int32) (v_parishesOf : (Nat → Int32)) (v_stitchesOf : (Nat → Int32)) (v_a0_there : Int32) (v_a0_hair : Int32) (v_a0_year : Int32) (v_a0_stitches : (Nat → Int32)), P p1 v_parishesOf v_stitchesOf v_a0_there v_a0_stitches → MI l yX0_mostParishes wsX0_mostParishes ({ frames := 4, cells := 0, slots := 0, locals := 116 }) [.ref h_this, .ref h_a0, .int p1] D cI cZ sz [(h_this, .inr (0, [.int v_leastBorders, .int v_firstInRow, .ref h_this_between, .ref h_this_rowOf, .ref h_this_stitchesOf, .ref h_this_parishesOf, .ref h_this_weightOf])), (h_this_parishesOf, .inl (cI, 1024, .inl v_parishesOf)), (h_this_stitchesOf, .inl (cI, 1024, .inl v_stitchesOf)), (h_a0, .inr (1, [.int v_a0_there, .int v_a0_hair, .int v_a0_year, .ref h_a0_wool, .ref h_a0_stitches, .ref h_a0_place])), (h_a0_stitches, .inl (cI, 10, .inl v_a0_stitches))] (fun r (u : (Nat → Int32) × (Nat → Int32)) => Q p1 v_parishesOf v_stitchesOf v_a0_there v_a0_stitches r (u.1) (u.2)) (fun u => [(h_this, .inr (0, [.int v_leastBorders, .int v_firstInRow, .ref h_this_between, .ref h_this_rowOf, .ref h_this_stitchesOf, .ref h_this_parishesOf, .ref h_this_weightOf])), (h_this_parishesOf, .inl (cI, 1024, .inl (u.1))), (h_this_stitchesOf, .inl (cI, 1024, .inl (u.2))), (h_a0, .inr (1, [.int v_a0_there, .int v_a0_hair, .int v_a0_year, .ref h_a0_wool, .ref h_a0_stitches, .ref h_a0_place])), (h_a0_stitches, .inl (cI, 10, .inl v_a0_stitches))]) 0 0
set_option maxHeartbeats 4000000 in
set_option maxRecDepth 100000 in
theorem walkX0_mostParishes {l : Launch} {D : va_G} {cI cZ : ClassId} {PX0_mostParishes : Int32 → (Nat → Int32) → (Nat → Int32) → Int32 → (Nat → Int32) → Prop} {QX0_mostParishes : Int32 → (Nat → Int32) → (Nat → Int32) → Int32 → (Nat → Int32) → Int32 → (Nat → Int32) → (Nat → Int32) → Prop} {PX0_mostUnions : Int32 → Int32 → (Nat → Int32) → (Nat → Int32) → (Nat → Int32) → Prop} {QX0_mostUnions : Int32 → Int32 → (Nat → Int32) → (Nat → Int32) → (Nat → Int32) → Int32 → (Nat → Int32) → (Nat → Int32) → Prop} {PX8_isIn : Int32 → Int32 → Prop} {QX8_isIn : Int32 → Int32 → Int32 → Prop} (kX0_mostUnions : KX0_mostUnions l D cI cZ PX0_mostUnions QX0_mostUnions) (kX8_isIn : KX8_isIn l D cI cZ PX8_isIn QX8_isIn) (IX0_mostParishes_8 : Int32 → (Nat → Int32) → (Nat → Int32) → Int32 → (Nat → Int32) → Nat → Int32 → Int32 → Int32 → Int32 → (Nat → Int32) → (Nat → Int32) → Prop) (hvc : ∀ (p1 : Int32) (v_parishesOf : (Nat → Int32)) (v_stitchesOf : (Nat → Int32)) (v_a0_there : Int32) (v_a0_stitches : (Nat → Int32)), PX0_mostParishes p1 v_parishesOf v_stitchesOf v_a0_there v_a0_stitches → ((∃ n0 : Nat, IX0_mostParishes_8 p1 v_parishesOf v_stitchesOf v_a0_there v_a0_stitches n0 p1 (0 : Int32) (0 : Int32) (0 : Int32) v_parishesOf v_stitchesOf) ∧ (∀ (n_1 : Nat) (i_2 : Int32) (i_3 : Int32) (i_4 : Int32), (IX0_mostParishes_8 p1 v_parishesOf v_stitchesOf v_a0_there v_a0_stitches n_1 p1 i_4 i_3 i_2 v_parishesOf v_stitchesOf → (((10 : Int32) ≤ i_2 → (PX0_mostUnions i_3 p1 v_parishesOf v_stitchesOf v_a0_stitches ∧ (∀ (r_7 : Int32) (f_5 : (Nat → Int32)) (f_6 : (Nat → Int32)), QX0_mostUnions i_3 p1 v_parishesOf v_stitchesOf v_a0_stitches r_7 f_5 f_6 → (QX0_mostParishes p1 v_parishesOf v_stitchesOf v_a0_there v_a0_stitches (i_4 + r_7) f_5 f_6)))) ∧ (¬ (10 : Int32) ≤ i_2 → (vp_in i_2 10 ∧ (∀ x_9 : Int32, x_9 = ((v_a0_stitches (i_2).toNatClampNeg) &&& p1) → (PX8_isIn v_a0_there i_2 ∧ (∀ r_10 : Int32, QX8_isIn v_a0_there i_2 r_10 → ((r_10 = 0 → (PX8_isIn v_a0_there i_2 ∧ (∀ r_11 : Int32, QX8_isIn v_a0_there i_2 r_11 → ((r_11 = 0 → (∀ x_12 : Int32, x_12 = (i_2 + (1 : Int32)) → (∃ n1 : Nat, n1 < n_1 ∧ IX0_mostParishes_8 p1 v_parishesOf v_stitchesOf v_a0_there v_a0_stitches n1 p1 i_4 i_3 x_12 v_parishesOf v_stitchesOf))) ∧ (¬ r_11 = 0 → ((x_9 = 0 → (∀ x_13 : Int32, x_13 = (i_2 + (1 : Int32)) → (∃ n1 : Nat, n1 < n_1 ∧ IX0_mostParishes_8 p1 v_parishesOf v_stitchesOf v_a0_there v_a0_stitches n1 p1 i_4 i_3 x_13 v_parishesOf v_stitchesOf))) ∧ (¬ x_9 = 0 → (∀ x_14 : Int32, x_14 = (i_3 ||| ((1 : Int32) <<< (i_2 &&& 31))) → (∀ x_15 : Int32, x_15 = (i_2 + (1 : Int32)) → (∃ n1 : Nat, n1 < n_1 ∧ IX0_mostParishes_8 p1 v_parishesOf v_stitchesOf v_a0_there v_a0_stitches n1 p1 i_4 x_14 x_15 v_parishesOf v_stitchesOf)))))))))) ∧ (¬ r_10 = 0 → ((¬ x_9 = p1 → (PX8_isIn v_a0_there i_2 ∧ (∀ r_16 : Int32, QX8_isIn v_a0_there i_2 r_16 → ((r_16 = 0 → (∀ x_17 : Int32, x_17 = (i_2 + (1 : Int32)) → (∃ n1 : Nat, n1 < n_1 ∧ IX0_mostParishes_8 p1 v_parishesOf v_stitchesOf v_a0_there v_a0_stitches n1 p1 i_4 i_3 x_17 v_parishesOf v_stitchesOf))) ∧ (¬ r_16 = 0 → ((x_9 = 0 → (∀ x_18 : Int32, x_18 = (i_2 + (1 : Int32)) → (∃ n1 : Nat, n1 < n_1 ∧ IX0_mostParishes_8 p1 v_parishesOf v_stitchesOf v_a0_there v_a0_stitches n1 p1 i_4 i_3 x_18 v_parishesOf v_stitchesOf))) ∧ (¬ x_9 = 0 → (∀ x_19 : Int32, x_19 = (i_3 ||| ((1 : Int32) <<< (i_2 &&& 31))) → (∀ x_20 : Int32, x_20 = (i_2 + (1 : Int32)) → (∃ n1 : Nat, n1 < n_1 ∧ IX0_mostParishes_8 p1 v_parishesOf v_stitchesOf v_a0_there v_a0_stitches n1 p1 i_4 x_19 x_20 v_parishesOf v_stitchesOf)))))))))) ∧ (x_9 = p1 → (∀ x_21 : Int32, x_21 = (i_4 + (1 : Int32)) → (∀ x_22 : Int32, x_22 = (i_2 + (1 : Int32)) → (∃ n1 : Nat, n1 < n_1 ∧ IX0_mostParishes_8 p1 v_parishesOf v_stitchesOf v_a0_there v_a0_stitches n1 p1 x_21 i_3 x_22 v_parishesOf v_stitchesOf))))))))))))))))) : KX0_mostParishes l D cI cZ PX0_mostParishes QX0_mostParishes := by
  intro sz h_this h_a0 h_this_between h_this_rowOf h_this_stitchesOf h_this_parishesOf h_this_weightOf h_a0_wool h_a0_stitches h_a0_place p1 v_leastBorders v_firstInRow v_parishesOf v_stitchesOf v_a0_there v_a0_hair v_a0_year v_a0_stitches hpre
  have vc := hvc p1 v_parishesOf v_stitchesOf v_a0_there v_a0_stitches hpre
  clear hvc
  refine Met.ofW (cc := cX0_mostParishes) (maxL := 7) (ret := (some .int)) (by decide) rfl ?_
  intro p e s m args below meth c s₁ B hml hv
  obtain ⟨rfl, hsz, hP, hK, hD0⟩ := hv
  have hx := B.exec
  have hb := B.bytes
  have hr := B.returns
  have hts := atoms_spec (ws := wsX0_mostParishes) B.pre
  have hown : s.vm.findClass RX0 = some m.cls := findClass_of_methodNamed B.named
  have hlocks := B.notSynchronized
  subst hsz
  have hD := hD0.self (sz := s.heap.size)
  generalize hAe : va_A [(h_this, .inr (0, [.int v_leastBorders, .int v_firstInRow, .ref h_this_between, .ref h_this_rowOf, .ref h_this_stitchesOf, .ref h_this_parishesOf, .ref h_this_weightOf])), (h_this_parishesOf, .inl (cI, 1024, .inl v_parishesOf)), (h_this_stitchesOf, .inl (cI, 1024, .inl v_stitchesOf)), (h_a0, .inr (1, [.int v_a0_there, .int v_a0_hair, .int v_a0_year, .ref h_a0_wool, .ref h_a0_stitches, .ref h_a0_place])), (h_a0_stitches, .inl (cI, 10, .inl v_a0_stitches))] s.heap.size = A at hD ⊢
  have hA : ∀ q : Nat, s.heap.size ≤ q → A q := fun q h => by rw [← hAe]; exact Or.inr h
  have hS : va_S A s.heap s.heap [] := va_S.rf
  have hP : va_P D vwCl [(h_this, .inr (0, [.int v_leastBorders, .int v_firstInRow, .ref h_this_between, .ref h_this_rowOf, .ref h_this_stitchesOf, .ref h_this_parishesOf, .ref h_this_weightOf])), (h_this_parishesOf, .inl (cI, 1024, .inl v_parishesOf)), (h_this_stitchesOf, .inl (cI, 1024, .inl v_stitchesOf)), (h_a0, .inr (1, [.int v_a0_there, .int v_a0_hair, .int v_a0_year, .ref h_a0_wool, .ref h_a0_stitches, .ref h_a0_place])), (h_a0_stitches, .inl (cI, 10, .inl v_a0_stitches))] s.heap := hP
  have hl := lv_entry ([.ref h_this, .ref h_a0, .int p1]) (n := 7) (Nat.le_of_ble_eq_true rfl)
  rw [lg_entry_eq]
  generalize (lg_sl ([.ref h_this, .ref h_a0, .int p1]) ++ List.replicate (7 - (lg_sl ([.ref h_this, .ref h_a0, .int p1])).length) Slot.unset).toArray = ls at hl ⊢
  have hl : lv_has ls 7 [(0, .ref h_this), (1, .ref h_a0), (2, .int p1)] := hl
  refine lv_iconst (v := (0 : Int32)) hx hb dX0_mostParishes_0 (by decide) ?_
  refine lv_istore_n (lv' := [(3, .int (0 : Int32)), (0, .ref h_this), (1, .ref h_a0), (2, .int p1)]) hx hb dX0_mostParishes_1 rfl hl (by decide) rfl (fun ls hl => ?_)
  refine lv_iconst (v := (0 : Int32)) hx hb dX0_mostParishes_2 (by decide) ?_
  refine lv_istore (lv' := [(4, .int (0 : Int32)), (3, .int (0 : Int32)), (0, .ref h_this), (1, .ref h_a0), (2, .int p1)]) hx hb dX0_mostParishes_3 hl (by decide) rfl (fun ls hl => ?_)
  refine lv_iconst (v := (0 : Int32)) hx hb dX0_mostParishes_5 (by decide) ?_
  refine lv_istore (lv' := [(5, .int (0 : Int32)), (4, .int (0 : Int32)), (3, .int (0 : Int32)), (0, .ref h_this), (1, .ref h_a0), (2, .int p1)]) hx hb dX0_mostParishes_6 hl (by decide) rfl (fun ls hl => ?_)
  obtain ⟨⟨n0_1, hi0_1⟩, vc⟩ := vc
  refine kloop (V := Int32 × Int32 × Int32) (I := fun n v => IX0_mostParishes_8 p1 v_parishesOf v_stitchesOf v_a0_there v_a0_stitches n p1 (v.2.2) (v.2.1) (v.1) v_parishesOf v_stitchesOf) (wv := fun v => [(h_this, .inr (0, [.int v_leastBorders, .int v_firstInRow, .ref h_this_between, .ref h_this_rowOf, .ref h_this_stitchesOf, .ref h_this_parishesOf, .ref h_this_weightOf])), (h_this_parishesOf, .inl (cI, 1024, .inl v_parishesOf)), (h_this_stitchesOf, .inl (cI, 1024, .inl v_stitchesOf)), (h_a0, .inr (1, [.int v_a0_there, .int v_a0_hair, .int v_a0_year, .ref h_a0_wool, .ref h_a0_stitches, .ref h_a0_place])), (h_a0_stitches, .inl (cI, 10, .inl v_a0_stitches))]) (lv := fun v => [(0, .ref h_this), (1, .ref h_a0), (2, .int p1), (3, .int (v.2.2)), (4, .int (v.2.1)), (5, .int (v.1))]) n0_1 ((0 : Int32), (0 : Int32), (0 : Int32)) hi0_1 hP hD hS (lv_sub hl [3, 4, 5, 2, 1, 0] rfl) ?_
  intro n_1 v_1 hi_1 ih_1 H locs hP hD hS ls hl
  obtain ⟨i_2, i_3, i_4⟩ := v_1
  replace vc := vc n_1 i_2 i_3 i_4 hi_1
  have hP : va_P D vwCl [(h_this, .inr (0, [.int v_leastBorders, .int v_firstInRow, .ref h_this_between, .ref h_this_rowOf, .ref h_this_stitchesOf, .ref h_this_parishesOf, .ref h_this_weightOf])), (h_this_parishesOf, .inl (cI, 1024, .inl v_parishesOf)), (h_this_stitchesOf, .inl (cI, 1024, .inl v_stitchesOf)), (h_a0, .inr (1, [.int v_a0_there, .int v_a0_hair, .int v_a0_year, .ref h_a0_wool, .ref h_a0_stitches, .ref h_a0_place])), (h_a0_stitches, .inl (cI, 10, .inl v_a0_stitches))] H := hP
  have hD : va_D A [(h_this, .inr (0, [.int v_leastBorders, .int v_firstInRow, .ref h_this_between, .ref h_this_rowOf, .ref h_this_stitchesOf, .ref h_this_parishesOf, .ref h_this_weightOf])), (h_this_parishesOf, .inl (cI, 1024, .inl v_parishesOf)), (h_this_stitchesOf, .inl (cI, 1024, .inl v_stitchesOf)), (h_a0, .inr (1, [.int v_a0_there, .int v_a0_hair, .int v_a0_year, .ref h_a0_wool, .ref h_a0_stitches, .ref h_a0_place])), (h_a0_stitches, .inl (cI, 10, .inl v_a0_stitches))] := hD
  have hl : lv_has ls 7 [(0, .ref h_this), (1, .ref h_a0), (2, .int p1), (3, .int i_4), (4, .int i_3), (5, .int i_2)] := hl
  refine lv_iload hx hb dX0_mostParishes_8 (lv_at hl 5 rfl) ?_
  refine lv_bipush (v := (10 : Int32)) hx hb dX0_mostParishes_10 (by decide) ?_
  refine lv_icmp_ge (tgt := 82) hx hb dX0_mostParishes_12 (by decide) (fun c_ => ?_) (fun c_ => ?_)
  · replace vc := vc.1 c_
    refine lv_iload_n hx hb dX0_mostParishes_82 rfl (lv_at hl 3 rfl) ?_
    refine lv_aload_n hx hb dX0_mostParishes_83 rfl (lv_at hl 0 rfl) ?_
    refine lv_aload_n hx hb dX0_mostParishes_84 rfl (lv_at hl 1 rfl) ?_
    refine lv_iload hx hb dX0_mostParishes_85 (lv_at hl 4 rfl) ?_
    refine lv_iload_n hx hb dX0_mostParishes_87 rfl (lv_at hl 2 rfl) ?_
    refine kj_i (wr := []) (rest := [.int i_4]) (kV ⟨hx, hb, hml, hown, hts⟩ (kX0_mostUnions _ h_this h_a0 h_this_between h_this_rowOf h_this_stitchesOf h_this_parishesOf h_this_weightOf h_a0_wool h_a0_stitches h_a0_place i_3 p1 v_leastBorders v_firstInRow v_parishesOf v_stitchesOf v_a0_there v_a0_hair v_a0_year v_a0_stitches vc.1) (cwV 3 hts gX0_mostParishes_X0_mostUnions rfl rfl rfl (by decide +kernel) ⟨(Nat.le_of_ble_eq_true rfl), (Nat.le_of_ble_eq_true rfl)⟩) hK hP hD [0, 1, 2, 3, 4] rfl rfl 0 0 rfl rfl rfl rfl rfl hl.1 (Nat.le_of_ble_eq_true rfl) dX0_mostParishes_88 ⟨(Nat.le_of_ble_eq_true rfl), (Nat.le_of_ble_eq_true rfl)⟩) hP hD hS hA [0, 1, 2, 3, 4] [] rfl rfl rfl rfl (fun r_7 u_ H locs hq_ hP hD hS => ?_)
    obtain ⟨f_5, f_6⟩ := u_
    replace vc := vc.2 r_7 f_5 f_6 hq_
    have hP : va_P D vwCl [(h_this, .inr (0, [.int v_leastBorders, .int v_firstInRow, .ref h_this_between, .ref h_this_rowOf, .ref h_this_stitchesOf, .ref h_this_parishesOf, .ref h_this_weightOf])), (h_this_parishesOf, .inl (cI, 1024, .inl f_5)), (h_this_stitchesOf, .inl (cI, 1024, .inl f_6)), (h_a0, .inr (1, [.int v_a0_there, .int v_a0_hair, .int v_a0_year, .ref h_a0_wool, .ref h_a0_stitches, .ref h_a0_place])), (h_a0_stitches, .inl (cI, 10, .inl v_a0_stitches))] H := hP
    have hD : va_D A [(h_this, .inr (0, [.int v_leastBorders, .int v_firstInRow, .ref h_this_between, .ref h_this_rowOf, .ref h_this_stitchesOf, .ref h_this_parishesOf, .ref h_this_weightOf])), (h_this_parishesOf, .inl (cI, 1024, .inl f_5)), (h_this_stitchesOf, .inl (cI, 1024, .inl f_6)), (h_a0, .inr (1, [.int v_a0_there, .int v_a0_hair, .int v_a0_year, .ref h_a0_wool, .ref h_a0_stitches, .ref h_a0_place])), (h_a0_stitches, .inl (cI, 10, .inl v_a0_stitches))] := hD
    refine lv_iadd hx hb dX0_mostParishes_91 ?_
    exact W.iret (v := (i_4 + r_7)) hx hb hr (fun t ht hW => ⟨⟨(i_4 + r_7), (f_5, f_6), rfl, vc, QB_mk (hP.sub [0, 1, 2, 3, 4] rfl) (hD.sub [0, 1, 2, 3, 4] rfl rfl) ht⟩, hS.F ht⟩) hS.2.2 dX0_mostParishes_92
  · replace vc := vc.2 c_
    refine lv_aload_n hx hb dX0_mostParishes_15 rfl (lv_at hl 1 rfl) ?_
    refine va_get (D := D) (ci := 1) (v := .ref h_a0_stitches) (C := RX1) (T := TX1) (N := 6) hx hb hts mcX0_mostParishes_X1 hown hK.1 hP 3 rfl rfl 4 (by decide) (hts _ mwX0_mostParishes_1) (fun _ h9 => h9) rfl dX0_mostParishes_16 ?_
    refine lv_iload hx hb dX0_mostParishes_19 (lv_at hl 5 rfl) ?_
    have hi_8 := vc.1
    replace vc := vc.2
    refine va_iald hx hb hK.1 hP 4 0 rfl rfl hi_8 dX0_mostParishes_21 ?_
    refine lv_iload_n hx hb dX0_mostParishes_22 rfl (lv_at hl 2 rfl) ?_
    refine lv_iand hx hb dX0_mostParishes_23 ?_
    refine lv_topi (fun x_9 ex_9 => ?_)
    replace vc := vc x_9 ex_9
    refine lv_istore (lv' := [(6, .int x_9), (0, .ref h_this), (1, .ref h_a0), (2, .int p1), (3, .int i_4), (4, .int i_3), (5, .int i_2)]) hx hb dX0_mostParishes_24 hl (by decide) rfl (fun ls hl => ?_)
    refine lv_aload_n hx hb dX0_mostParishes_26 rfl (lv_at hl 2 rfl) ?_
    refine va_get (D := D) (ci := 1) (v := .int v_a0_there) (C := RX1) (T := TX1) (N := 6) hx hb hts mcX0_mostParishes_X1 hown hK.1 hP 3 rfl rfl 0 (by decide) (hts _ mwX0_mostParishes_2) (fun _ h9 => h9) rfl dX0_mostParishes_27 ?_
    refine lv_iload hx hb dX0_mostParishes_30 (lv_at hl 6 rfl) ?_
    refine kj0_i (rest := []) (kSN ⟨hx, hb, hml, hown, hts⟩ (kX8_isIn _ v_a0_there i_2 vc.1) ⟨va_cnB 2 hts gX0_mostParishes_X8_isIn_n47 rfl rfl rfl (KK_n6 hK) (hts _ mwX0_mostParishes_4) (by decide +kernel) ⟨(Nat.le_of_ble_eq_true rfl), (Nat.le_of_ble_eq_true rfl)⟩, (hts _ mwX0_mostParishes_3), trivial⟩ hK rfl rfl hl.1 (Nat.le_of_ble_eq_true rfl) dX0_mostParishes_32 ⟨(Nat.le_of_ble_eq_true rfl), (Nat.le_of_ble_eq_true rfl)⟩) hP hS hA (fun r_10 H locs hq_ hP hS => ?_)
    replace vc := vc.2 r_10 hq_
    have hP : va_P D vwCl [(h_this, .inr (0, [.int v_leastBorders, .int v_firstInRow, .ref h_this_between, .ref h_this_rowOf, .ref h_this_stitchesOf, .ref h_this_parishesOf, .ref h_this_weightOf])), (h_this_parishesOf, .inl (cI, 1024, .inl v_parishesOf)), (h_this_stitchesOf, .inl (cI, 1024, .inl v_stitchesOf)), (h_a0, .inr (1, [.int v_a0_there, .int v_a0_hair, .int v_a0_year, .ref h_a0_wool, .ref h_a0_stitches, .ref h_a0_place])), (h_a0_stitches, .inl (cI, 10, .inl v_a0_stitches))] H := hP
    refine lv_if_eq (tgt := 50) hx hb dX0_mostParishes_35 (by decide) (fun c_ => ?_) (fun c_ => ?_)
    · replace vc := vc.1 c_
      refine lv_aload_n hx hb dX0_mostParishes_50 rfl (lv_at hl 2 rfl) ?_
      refine va_get (D := D) (ci := 1) (v := .int v_a0_there) (C := RX1) (T := TX1) (N := 6) hx hb hts mcX0_mostParishes_X1 hown hK.1 hP 3 rfl rfl 0 (by decide) (hts _ mwX0_mostParishes_2) (fun _ h9 => h9) rfl dX0_mostParishes_51 ?_
      refine lv_iload hx hb dX0_mostParishes_54 (lv_at hl 6 rfl) ?_
      refine kj0_i (rest := []) (kSN ⟨hx, hb, hml, hown, hts⟩ (kX8_isIn _ v_a0_there i_2 vc.1) ⟨va_cnB 2 hts gX0_mostParishes_X8_isIn_n47 rfl rfl rfl (KK_n6 hK) (hts _ mwX0_mostParishes_4) (by decide +kernel) ⟨(Nat.le_of_ble_eq_true rfl), (Nat.le_of_ble_eq_true rfl)⟩, (hts _ mwX0_mostParishes_3), trivial⟩ hK rfl rfl hl.1 (Nat.le_of_ble_eq_true rfl) dX0_mostParishes_56 ⟨(Nat.le_of_ble_eq_true rfl), (Nat.le_of_ble_eq_true rfl)⟩) hP hS hA (fun r_11 H locs hq_ hP hS => ?_)
      replace vc := vc.2 r_11 hq_
      have hP : va_P D vwCl [(h_this, .inr (0, [.int v_leastBorders, .int v_firstInRow, .ref h_this_between, .ref h_this_rowOf, .ref h_this_stitchesOf, .ref h_this_parishesOf, .ref h_this_weightOf])), (h_this_parishesOf, .inl (cI, 1024, .inl v_parishesOf)), (h_this_stitchesOf, .inl (cI, 1024, .inl v_stitchesOf)), (h_a0, .inr (1, [.int v_a0_there, .int v_a0_hair, .int v_a0_year, .ref h_a0_wool, .ref h_a0_stitches, .ref h_a0_place])), (h_a0_stitches, .inl (cI, 10, .inl v_a0_stitches))] H := hP
      refine lv_if_eq (tgt := 76) hx hb dX0_mostParishes_59 (by decide) (fun c_ => ?_) (fun c_ => ?_)
      · replace vc := vc.1 c_
        obtain ⟨x_12, ex_12⟩ : ∃ y_ : Int32, y_ = (i_2 + (1 : Int32)) := ⟨_, rfl⟩
        replace vc := vc x_12 ex_12
        refine lv_iinc (v := x_12) (lv' := [(5, .int x_12), (6, .int x_9), (0, .ref h_this), (1, .ref h_a0), (2, .int p1), (3, .int i_4), (4, .int i_3)]) hx hb dX0_mostParishes_76 hl (k := 6) rfl (by rw [ex_12]; rfl) (by decide) rfl (fun ls hl => ?_)
        refine lv_goto (tgt := 8) hx hb dX0_mostParishes_79 (by decide) ?_
        obtain ⟨n1_, hlt_, hi_⟩ := vc
        exact ih_1 n1_ (x_12, i_3, i_4) hlt_ hi_ _ _ hP hD hS ls (lv_sub hl [2, 3, 4, 5, 6, 0] rfl)
      · replace vc := vc.2 c_
        refine lv_iload hx hb dX0_mostParishes_62 (lv_at hl 0 rfl) ?_
        refine lv_if_eq (tgt := 76) hx hb dX0_mostParishes_64 (by decide) (fun c_ => ?_) (fun c_ => ?_)
        · replace vc := vc.1 c_
          obtain ⟨x_13, ex_13⟩ : ∃ y_ : Int32, y_ = (i_2 + (1 : Int32)) := ⟨_, rfl⟩
          replace vc := vc x_13 ex_13
          refine lv_iinc (v := x_13) (lv' := [(5, .int x_13), (6, .int x_9), (0, .ref h_this), (1, .ref h_a0), (2, .int p1), (3, .int i_4), (4, .int i_3)]) hx hb dX0_mostParishes_76 hl (k := 6) rfl (by rw [ex_13]; rfl) (by decide) rfl (fun ls hl => ?_)
          refine lv_goto (tgt := 8) hx hb dX0_mostParishes_79 (by decide) ?_
          obtain ⟨n1_, hlt_, hi_⟩ := vc
          exact ih_1 n1_ (x_13, i_3, i_4) hlt_ hi_ _ _ hP hD hS ls (lv_sub hl [2, 3, 4, 5, 6, 0] rfl)
        · replace vc := vc.2 c_
          refine lv_iload hx hb dX0_mostParishes_67 (lv_at hl 5 rfl) ?_
          refine lv_iconst (v := (1 : Int32)) hx hb dX0_mostParishes_69 (by decide) ?_
          refine lv_iload hx hb dX0_mostParishes_70 (lv_at hl 6 rfl) ?_
          refine lv_ishl hx hb dX0_mostParishes_72 ?_
          refine lv_ior hx hb dX0_mostParishes_73 ?_
          refine lv_topi (fun x_14 ex_14 => ?_)
          replace vc := vc x_14 ex_14
          refine lv_istore (lv' := [(4, .int x_14), (6, .int x_9), (0, .ref h_this), (1, .ref h_a0), (2, .int p1), (3, .int i_4), (5, .int i_2)]) hx hb dX0_mostParishes_74 hl (by decide) rfl (fun ls hl => ?_)
          obtain ⟨x_15, ex_15⟩ : ∃ y_ : Int32, y_ = (i_2 + (1 : Int32)) := ⟨_, rfl⟩
          replace vc := vc x_15 ex_15
          refine lv_iinc (v := x_15) (lv' := [(5, .int x_15), (4, .int x_14), (6, .int x_9), (0, .ref h_this), (1, .ref h_a0), (2, .int p1), (3, .int i_4)]) hx hb dX0_mostParishes_76 hl (k := 6) rfl (by rw [ex_15]; rfl) (by decide) rfl (fun ls hl => ?_)
          refine lv_goto (tgt := 8) hx hb dX0_mostParishes_79 (by decide) ?_
          obtain ⟨n1_, hlt_, hi_⟩ := vc
          exact ih_1 n1_ (x_15, x_14, i_4) hlt_ hi_ _ _ hP hD hS ls (lv_sub hl [3, 4, 5, 6, 1, 0] rfl)
    · replace vc := vc.2 c_
      refine lv_iload hx hb dX0_mostParishes_38 (lv_at hl 0 rfl) ?_
      refine lv_iload_n hx hb dX0_mostParishes_40 rfl (lv_at hl 3 rfl) ?_
      refine lv_icmp_ne (tgt := 50) hx hb dX0_mostParishes_41 (by decide) (fun c_ => ?_) (fun c_ => ?_)
      · replace vc := vc.1 c_
        refine lv_aload_n hx hb dX0_mostParishes_50 rfl (lv_at hl 2 rfl) ?_
        refine va_get (D := D) (ci := 1) (v := .int v_a0_there) (C := RX1) (T := TX1) (N := 6) hx hb hts mcX0_mostParishes_X1 hown hK.1 hP 3 rfl rfl 0 (by decide) (hts _ mwX0_mostParishes_2) (fun _ h9 => h9) rfl dX0_mostParishes_51 ?_
        refine lv_iload hx hb dX0_mostParishes_54 (lv_at hl 6 rfl) ?_
        refine kj0_i (rest := []) (kSN ⟨hx, hb, hml, hown, hts⟩ (kX8_isIn _ v_a0_there i_2 vc.1) ⟨va_cnB 2 hts gX0_mostParishes_X8_isIn_n47 rfl rfl rfl (KK_n6 hK) (hts _ mwX0_mostParishes_4) (by decide +kernel) ⟨(Nat.le_of_ble_eq_true rfl), (Nat.le_of_ble_eq_true rfl)⟩, (hts _ mwX0_mostParishes_3), trivial⟩ hK rfl rfl hl.1 (Nat.le_of_ble_eq_true rfl) dX0_mostParishes_56 ⟨(Nat.le_of_ble_eq_true rfl), (Nat.le_of_ble_eq_true rfl)⟩) hP hS hA (fun r_16 H locs hq_ hP hS => ?_)
        replace vc := vc.2 r_16 hq_
        have hP : va_P D vwCl [(h_this, .inr (0, [.int v_leastBorders, .int v_firstInRow, .ref h_this_between, .ref h_this_rowOf, .ref h_this_stitchesOf, .ref h_this_parishesOf, .ref h_this_weightOf])), (h_this_parishesOf, .inl (cI, 1024, .inl v_parishesOf)), (h_this_stitchesOf, .inl (cI, 1024, .inl v_stitchesOf)), (h_a0, .inr (1, [.int v_a0_there, .int v_a0_hair, .int v_a0_year, .ref h_a0_wool, .ref h_a0_stitches, .ref h_a0_place])), (h_a0_stitches, .inl (cI, 10, .inl v_a0_stitches))] H := hP
        refine lv_if_eq (tgt := 76) hx hb dX0_mostParishes_59 (by decide) (fun c_ => ?_) (fun c_ => ?_)
        · replace vc := vc.1 c_
          obtain ⟨x_17, ex_17⟩ : ∃ y_ : Int32, y_ = (i_2 + (1 : Int32)) := ⟨_, rfl⟩
          replace vc := vc x_17 ex_17
          refine lv_iinc (v := x_17) (lv' := [(5, .int x_17), (6, .int x_9), (0, .ref h_this), (1, .ref h_a0), (2, .int p1), (3, .int i_4), (4, .int i_3)]) hx hb dX0_mostParishes_76 hl (k := 6) rfl (by rw [ex_17]; rfl) (by decide) rfl (fun ls hl => ?_)
          refine lv_goto (tgt := 8) hx hb dX0_mostParishes_79 (by decide) ?_
          obtain ⟨n1_, hlt_, hi_⟩ := vc
          exact ih_1 n1_ (x_17, i_3, i_4) hlt_ hi_ _ _ hP hD hS ls (lv_sub hl [2, 3, 4, 5, 6, 0] rfl)
        · replace vc := vc.2 c_
          refine lv_iload hx hb dX0_mostParishes_62 (lv_at hl 0 rfl) ?_
          refine lv_if_eq (tgt := 76) hx hb dX0_mostParishes_64 (by decide) (fun c_ => ?_) (fun c_ => ?_)
          · replace vc := vc.1 c_
            obtain ⟨x_18, ex_18⟩ : ∃ y_ : Int32, y_ = (i_2 + (1 : Int32)) := ⟨_, rfl⟩
            replace vc := vc x_18 ex_18
            refine lv_iinc (v := x_18) (lv' := [(5, .int x_18), (6, .int x_9), (0, .ref h_this), (1, .ref h_a0), (2, .int p1), (3, .int i_4), (4, .int i_3)]) hx hb dX0_mostParishes_76 hl (k := 6) rfl (by rw [ex_18]; rfl) (by decide) rfl (fun ls hl => ?_)
            refine lv_goto (tgt := 8) hx hb dX0_mostParishes_79 (by decide) ?_
            obtain ⟨n1_, hlt_, hi_⟩ := vc
            exact ih_1 n1_ (x_18, i_3, i_4) hlt_ hi_ _ _ hP hD hS ls (lv_sub hl [2, 3, 4, 5, 6, 0] rfl)
          · replace vc := vc.2 c_
            refine lv_iload hx hb dX0_mostParishes_67 (lv_at hl 5 rfl) ?_
            refine lv_iconst (v := (1 : Int32)) hx hb dX0_mostParishes_69 (by decide) ?_
            refine lv_iload hx hb dX0_mostParishes_70 (lv_at hl 6 rfl) ?_
            refine lv_ishl hx hb dX0_mostParishes_72 ?_
            refine lv_ior hx hb dX0_mostParishes_73 ?_
            refine lv_topi (fun x_19 ex_19 => ?_)
            replace vc := vc x_19 ex_19
            refine lv_istore (lv' := [(4, .int x_19), (6, .int x_9), (0, .ref h_this), (1, .ref h_a0), (2, .int p1), (3, .int i_4), (5, .int i_2)]) hx hb dX0_mostParishes_74 hl (by decide) rfl (fun ls hl => ?_)
            obtain ⟨x_20, ex_20⟩ : ∃ y_ : Int32, y_ = (i_2 + (1 : Int32)) := ⟨_, rfl⟩
            replace vc := vc x_20 ex_20
            refine lv_iinc (v := x_20) (lv' := [(5, .int x_20), (4, .int x_19), (6, .int x_9), (0, .ref h_this), (1, .ref h_a0), (2, .int p1), (3, .int i_4)]) hx hb dX0_mostParishes_76 hl (k := 6) rfl (by rw [ex_20]; rfl) (by decide) rfl (fun ls hl => ?_)
            refine lv_goto (tgt := 8) hx hb dX0_mostParishes_79 (by decide) ?_
            obtain ⟨n1_, hlt_, hi_⟩ := vc
            exact ih_1 n1_ (x_20, x_19, i_4) hlt_ hi_ _ _ hP hD hS ls (lv_sub hl [3, 4, 5, 6, 1, 0] rfl)
      · replace vc := vc.2 c_
        obtain ⟨x_21, ex_21⟩ : ∃ y_ : Int32, y_ = (i_4 + (1 : Int32)) := ⟨_, rfl⟩
        replace vc := vc x_21 ex_21
        refine lv_iinc (v := x_21) (lv' := [(3, .int x_21), (6, .int x_9), (0, .ref h_this), (1, .ref h_a0), (2, .int p1), (4, .int i_3), (5, .int i_2)]) hx hb dX0_mostParishes_44 hl (k := 4) rfl (by rw [ex_21]; rfl) (by decide) rfl (fun ls hl => ?_)
        refine lv_goto (tgt := 76) hx hb dX0_mostParishes_47 (by decide) ?_
        obtain ⟨x_22, ex_22⟩ : ∃ y_ : Int32, y_ = (i_2 + (1 : Int32)) := ⟨_, rfl⟩
        replace vc := vc x_22 ex_22
        refine lv_iinc (v := x_22) (lv' := [(5, .int x_22), (3, .int x_21), (6, .int x_9), (0, .ref h_this), (1, .ref h_a0), (2, .int p1), (4, .int i_3)]) hx hb dX0_mostParishes_76 hl (k := 6) rfl (by rw [ex_22]; rfl) (by decide) rfl (fun ls hl => ?_)
        refine lv_goto (tgt := 8) hx hb dX0_mostParishes_79 (by decide) ?_
        obtain ⟨n1_, hlt_, hi_⟩ := vc
        exact ih_1 n1_ (x_22, i_3, x_21) hlt_ hi_ _ _ hP hD hS ls (lv_sub hl [3, 4, 5, 1, 6, 0] rfl)
