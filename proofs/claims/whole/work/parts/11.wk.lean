theorem mwX9_isFit_1 : Cond.fieldLink RX9 241 "HassockSeeModel" "sights" "I" ∈ wsX9_isFit := List.mem_of_getElem? (i := 1) rfl
theorem mwX9_isFit_2 : Cond.fieldLink RX9 19 "HassockSeeModel" "sightSundays" "[I" ∈ wsX9_isFit := List.mem_of_getElem? (i := 2) rfl
theorem mwX9_isFit_3 : Cond.fieldLink RX9 22 "HassockSeeModel" "sightWool" "[I" ∈ wsX9_isFit := List.mem_of_getElem? (i := 3) rfl
theorem mcX9_isFit_X9 : ∀ w ∈ u_ws RX9 TX9 30, w ∈ wsX9_isFit := fun _ h => (List.mem_cons_of_mem _ (List.mem_append_right _ h))
def KX9_isFit (l : Launch) (D : va_G) (cI cZ : ClassId) (P : Int32 → Int32 → (Nat → Int32) → (Nat → Int32) → Prop) (Q : Int32 → Int32 → (Nat → Int32) → (Nat → Int32) → Int32 → Prop) : Prop := ∀ (sz : Nat) (h_this h_this_wool h_this_stitches h_this_place h_this_sightSundays h_this_sightWool h_this_pad h_this_act h_this_which h_this_much h_this_had h_this_rows h_this_groups h_this_covers h_this_byWool h_this_wins h_this_kept h_this_isKept : Nat) (p0 : Int32) (v_present : Int32) (v_chest : Int32) (v_years : Int32) (v_sights : Int32) (v_padMany : Int32) (v_acts : Int32) (v_sweptMany : Int32) (v_badAct : Int32) (v_badWhy : Int32) (v_sweptAct : Int32) (v_sweptWhich : Int32) (v_keptAt : Int32) (v_isWriting : Int32) (v_sightSundays : (Nat → Int32)) (v_sightWool : (Nat → Int32)), P p0 v_sights v_sightSundays v_sightWool → MI l yX9_isFit wsX9_isFit ({ frames := 1, cells := 0, slots := 0, locals := 22 }) [.ref h_this, .int p0] D cI cZ sz [(h_this, .inr (9, [.int v_present, .ref h_this_wool, .ref h_this_stitches, .ref h_this_place, .int v_chest, .int v_years, .ref h_this_sightSundays, .ref h_this_sightWool, .int v_sights, .ref h_this_pad, .int v_padMany, .ref h_this_act, .ref h_this_which, .ref h_this_much, .int v_acts, .int v_sweptMany, .ref h_this_had, .int v_badAct, .int v_badWhy, .int v_sweptAct, .int v_sweptWhich, .ref h_this_rows, .ref h_this_groups, .ref h_this_covers, .ref h_this_byWool, .ref h_this_wins, .ref h_this_kept, .ref h_this_isKept, .int v_keptAt, .int v_isWriting])), (h_this_sightSundays, .inl (cI, 8, .inl v_sightSundays)), (h_this_sightWool, .inl (cI, 8, .inl v_sightWool))] (fun r (u : Unit) => Q p0 v_sights v_sightSundays v_sightWool r ) (fun u => [(h_this, .inr (9, [.int v_present, .ref h_this_wool, .ref h_this_stitches, .ref h_this_place, .int v_chest, .int v_years, .ref h_this_sightSundays, .ref h_this_sightWool, .int v_sights, .ref h_this_pad, .int v_padMany, .ref h_this_act, .ref h_this_which, .ref h_this_much, .int v_acts, .int v_sweptMany, .ref h_this_had, .int v_badAct, .int v_badWhy, .int v_sweptAct, .int v_sweptWhich, .ref h_this_rows, .ref h_this_groups, .ref h_this_covers, .ref h_this_byWool, .ref h_this_wins, .ref h_this_kept, .ref h_this_isKept, .int v_keptAt, .int v_isWriting])), (h_this_sightSundays, .inl (cI, 8, .inl v_sightSundays)), (h_this_sightWool, .inl (cI, 8, .inl v_sightWool))]) 0 0
set_option maxHeartbeats 4000000 in
set_option maxRecDepth 100000 in
theorem walkX9_isFit {l : Launch} {D : va_G} {cI cZ : ClassId} {PX9_isFit : Int32 → Int32 → (Nat → Int32) → (Nat → Int32) → Prop} {QX9_isFit : Int32 → Int32 → (Nat → Int32) → (Nat → Int32) → Int32 → Prop} {PX9_woolBy : Int32 → Int32 → Prop} {QX9_woolBy : Int32 → Int32 → Int32 → Prop} (kX9_woolBy : KX9_woolBy l D cI cZ PX9_woolBy QX9_woolBy) (IX9_isFit_4 : Int32 → Int32 → (Nat → Int32) → (Nat → Int32) → Nat → Int32 → Int32 → Int32 → Prop) (hvc : ∀ (p0 : Int32) (v_sights : Int32) (v_sightSundays : (Nat → Int32)) (v_sightWool : (Nat → Int32)), PX9_isFit p0 v_sights v_sightSundays v_sightWool → ((∃ n0 : Nat, IX9_isFit_4 p0 v_sights v_sightSundays v_sightWool n0 p0 (1 : Int32) (0 : Int32)) ∧ (∀ (n_1 : Nat) (i_2 : Int32) (i_3 : Int32), (IX9_isFit_4 p0 v_sights v_sightSundays v_sightWool n_1 p0 i_2 i_3 → ((v_sights ≤ i_3 → ((i_2 = 0 ∨ i_2 = 1) ∧ QX9_isFit p0 v_sights v_sightSundays v_sightWool i_2 )) ∧ (¬ v_sights ≤ i_3 → ((i_2 = 0 → (∀ x_4 : Int32, x_4 = (i_3 + (1 : Int32)) → (∃ n1 : Nat, n1 < n_1 ∧ IX9_isFit_4 p0 v_sights v_sightSundays v_sightWool n1 p0 (0 : Int32) x_4))) ∧ (¬ i_2 = 0 → (vp_in i_3 8 ∧ (PX9_woolBy p0 (v_sightSundays (i_3).toNatClampNeg) ∧ (∀ r_6 : Int32, QX9_woolBy p0 (v_sightSundays (i_3).toNatClampNeg) r_6 → (vp_in i_3 8 ∧ ((¬ r_6 = (v_sightWool (i_3).toNatClampNeg) → (∀ x_8 : Int32, x_8 = (i_3 + (1 : Int32)) → (∃ n1 : Nat, n1 < n_1 ∧ IX9_isFit_4 p0 v_sights v_sightSundays v_sightWool n1 p0 (0 : Int32) x_8))) ∧ (r_6 = (v_sightWool (i_3).toNatClampNeg) → (∀ x_9 : Int32, x_9 = (i_3 + (1 : Int32)) → (∃ n1 : Nat, n1 < n_1 ∧ IX9_isFit_4 p0 v_sights v_sightSundays v_sightWool n1 p0 (1 : Int32) x_9)))))))))))))))) : KX9_isFit l D cI cZ PX9_isFit QX9_isFit := by
  intro sz h_this h_this_wool h_this_stitches h_this_place h_this_sightSundays h_this_sightWool h_this_pad h_this_act h_this_which h_this_much h_this_had h_this_rows h_this_groups h_this_covers h_this_byWool h_this_wins h_this_kept h_this_isKept p0 v_present v_chest v_years v_sights v_padMany v_acts v_sweptMany v_badAct v_badWhy v_sweptAct v_sweptWhich v_keptAt v_isWriting v_sightSundays v_sightWool hpre
  have vc := hvc p0 v_sights v_sightSundays v_sightWool hpre
  clear hvc
  refine Met.ofW (cc := cX9_isFit) (maxL := 4) (ret := (some .boolean)) (by decide) rfl ?_
  intro p e s m args below meth c s₁ B hml hv
  obtain ⟨rfl, hsz, hP, hK, hD0⟩ := hv
  have hx := B.exec
  have hb := B.bytes
  have hr := B.returns
  have hts := atoms_spec (ws := wsX9_isFit) B.pre
  have hown : s.vm.findClass RX9 = some m.cls := findClass_of_methodNamed B.named
  have hlocks := B.notSynchronized
  subst hsz
  have hD := hD0.self (sz := s.heap.size)
  generalize hAe : va_A [(h_this, .inr (9, [.int v_present, .ref h_this_wool, .ref h_this_stitches, .ref h_this_place, .int v_chest, .int v_years, .ref h_this_sightSundays, .ref h_this_sightWool, .int v_sights, .ref h_this_pad, .int v_padMany, .ref h_this_act, .ref h_this_which, .ref h_this_much, .int v_acts, .int v_sweptMany, .ref h_this_had, .int v_badAct, .int v_badWhy, .int v_sweptAct, .int v_sweptWhich, .ref h_this_rows, .ref h_this_groups, .ref h_this_covers, .ref h_this_byWool, .ref h_this_wins, .ref h_this_kept, .ref h_this_isKept, .int v_keptAt, .int v_isWriting])), (h_this_sightSundays, .inl (cI, 8, .inl v_sightSundays)), (h_this_sightWool, .inl (cI, 8, .inl v_sightWool))] s.heap.size = A at hD ⊢
  have hA : ∀ q : Nat, s.heap.size ≤ q → A q := fun q h => by rw [← hAe]; exact Or.inr h
  have hS : va_S A s.heap s.heap [] := va_S.rf
  have hP : va_P D vwCl [(h_this, .inr (9, [.int v_present, .ref h_this_wool, .ref h_this_stitches, .ref h_this_place, .int v_chest, .int v_years, .ref h_this_sightSundays, .ref h_this_sightWool, .int v_sights, .ref h_this_pad, .int v_padMany, .ref h_this_act, .ref h_this_which, .ref h_this_much, .int v_acts, .int v_sweptMany, .ref h_this_had, .int v_badAct, .int v_badWhy, .int v_sweptAct, .int v_sweptWhich, .ref h_this_rows, .ref h_this_groups, .ref h_this_covers, .ref h_this_byWool, .ref h_this_wins, .ref h_this_kept, .ref h_this_isKept, .int v_keptAt, .int v_isWriting])), (h_this_sightSundays, .inl (cI, 8, .inl v_sightSundays)), (h_this_sightWool, .inl (cI, 8, .inl v_sightWool))] s.heap := hP
  have hl := lv_entry ([.ref h_this, .int p0]) (n := 4) (Nat.le_of_ble_eq_true rfl)
  rw [lg_entry_eq]
  generalize (lg_sl ([.ref h_this, .int p0]) ++ List.replicate (4 - (lg_sl ([.ref h_this, .int p0])).length) Slot.unset).toArray = ls at hl ⊢
  have hl : lv_has ls 4 [(0, .ref h_this), (1, .int p0)] := hl
  refine lv_iconst (v := (1 : Int32)) hx hb dX9_isFit_0 (by decide) ?_
  refine lv_istore_n (lv' := [(2, .int (1 : Int32)), (0, .ref h_this), (1, .int p0)]) hx hb dX9_isFit_1 rfl hl (by decide) rfl (fun ls hl => ?_)
  refine lv_iconst (v := (0 : Int32)) hx hb dX9_isFit_2 (by decide) ?_
  refine lv_istore_n (lv' := [(3, .int (0 : Int32)), (2, .int (1 : Int32)), (0, .ref h_this), (1, .int p0)]) hx hb dX9_isFit_3 rfl hl (by decide) rfl (fun ls hl => ?_)
  obtain ⟨⟨n0_1, hi0_1⟩, vc⟩ := vc
  refine kloop (V := Int32 × Int32) (I := fun n v => IX9_isFit_4 p0 v_sights v_sightSundays v_sightWool n p0 (v.1) (v.2)) (wv := fun v => [(h_this, .inr (9, [.int v_present, .ref h_this_wool, .ref h_this_stitches, .ref h_this_place, .int v_chest, .int v_years, .ref h_this_sightSundays, .ref h_this_sightWool, .int v_sights, .ref h_this_pad, .int v_padMany, .ref h_this_act, .ref h_this_which, .ref h_this_much, .int v_acts, .int v_sweptMany, .ref h_this_had, .int v_badAct, .int v_badWhy, .int v_sweptAct, .int v_sweptWhich, .ref h_this_rows, .ref h_this_groups, .ref h_this_covers, .ref h_this_byWool, .ref h_this_wins, .ref h_this_kept, .ref h_this_isKept, .int v_keptAt, .int v_isWriting])), (h_this_sightSundays, .inl (cI, 8, .inl v_sightSundays)), (h_this_sightWool, .inl (cI, 8, .inl v_sightWool))]) (lv := fun v => [(0, .ref h_this), (1, .int p0), (2, .int (v.1)), (3, .int (v.2))]) n0_1 ((1 : Int32), (0 : Int32)) hi0_1 hP hD hS (lv_sub hl [2, 3, 1, 0] rfl) ?_
  intro n_1 v_1 hi_1 ih_1 H locs hP hD hS ls hl
  obtain ⟨i_2, i_3⟩ := v_1
  replace vc := vc n_1 i_2 i_3 hi_1
  have hP : va_P D vwCl [(h_this, .inr (9, [.int v_present, .ref h_this_wool, .ref h_this_stitches, .ref h_this_place, .int v_chest, .int v_years, .ref h_this_sightSundays, .ref h_this_sightWool, .int v_sights, .ref h_this_pad, .int v_padMany, .ref h_this_act, .ref h_this_which, .ref h_this_much, .int v_acts, .int v_sweptMany, .ref h_this_had, .int v_badAct, .int v_badWhy, .int v_sweptAct, .int v_sweptWhich, .ref h_this_rows, .ref h_this_groups, .ref h_this_covers, .ref h_this_byWool, .ref h_this_wins, .ref h_this_kept, .ref h_this_isKept, .int v_keptAt, .int v_isWriting])), (h_this_sightSundays, .inl (cI, 8, .inl v_sightSundays)), (h_this_sightWool, .inl (cI, 8, .inl v_sightWool))] H := hP
  have hD : va_D A [(h_this, .inr (9, [.int v_present, .ref h_this_wool, .ref h_this_stitches, .ref h_this_place, .int v_chest, .int v_years, .ref h_this_sightSundays, .ref h_this_sightWool, .int v_sights, .ref h_this_pad, .int v_padMany, .ref h_this_act, .ref h_this_which, .ref h_this_much, .int v_acts, .int v_sweptMany, .ref h_this_had, .int v_badAct, .int v_badWhy, .int v_sweptAct, .int v_sweptWhich, .ref h_this_rows, .ref h_this_groups, .ref h_this_covers, .ref h_this_byWool, .ref h_this_wins, .ref h_this_kept, .ref h_this_isKept, .int v_keptAt, .int v_isWriting])), (h_this_sightSundays, .inl (cI, 8, .inl v_sightSundays)), (h_this_sightWool, .inl (cI, 8, .inl v_sightWool))] := hD
  have hl : lv_has ls 4 [(0, .ref h_this), (1, .int p0), (2, .int i_2), (3, .int i_3)] := hl
  refine lv_iload_n hx hb dX9_isFit_4 rfl (lv_at hl 3 rfl) ?_
  refine lv_aload_n hx hb dX9_isFit_5 rfl (lv_at hl 0 rfl) ?_
  refine va_get (D := D) (ci := 9) (v := .int v_sights) (C := RX9) (T := TX9) (N := 30) hx hb hts mcX9_isFit_X9 hown hK.1 hP 0 rfl rfl 8 (by decide) (hts _ mwX9_isFit_1) (fun _ h9 => h9) rfl dX9_isFit_6 ?_
  refine lv_icmp_ge (tgt := 47) hx hb dX9_isFit_9 (by decide) (fun c_ => ?_) (fun c_ => ?_)
  · replace vc := vc.1 c_
    refine lv_iload_n hx hb dX9_isFit_47 rfl (lv_at hl 2 rfl) ?_
    exact W.zret (v := i_2) hx hb hr (bool_isB vc.1) (fun t ht hW => ⟨⟨i_2, (), rfl, vc.2, QB_mk (hP.sub [0, 1, 2] rfl) (hD.sub [0, 1, 2] rfl rfl) ht⟩, hS.F ht⟩) hS.2.2 dX9_isFit_48
  · replace vc := vc.2 c_
    refine lv_iload_n hx hb dX9_isFit_12 rfl (lv_at hl 2 rfl) ?_
    refine lv_if_eq (tgt := 39) hx hb dX9_isFit_13 (by decide) (fun c_ => ?_) (fun c_ => ?_)
    · replace vc := vc.1 c_
      refine lv_iconst (v := (0 : Int32)) hx hb dX9_isFit_39 (by decide) ?_
      refine lv_istore_n (lv' := [(2, .int (0 : Int32)), (0, .ref h_this), (1, .int p0), (3, .int i_3)]) hx hb dX9_isFit_40 rfl hl (by decide) rfl (fun ls hl => ?_)
      obtain ⟨x_4, ex_4⟩ : ∃ y_ : Int32, y_ = (i_3 + (1 : Int32)) := ⟨_, rfl⟩
      replace vc := vc x_4 ex_4
      refine lv_iinc (v := x_4) (lv' := [(3, .int x_4), (2, .int (0 : Int32)), (0, .ref h_this), (1, .int p0)]) hx hb dX9_isFit_41 hl (k := 3) rfl (by rw [ex_4]; rfl) (by decide) rfl (fun ls hl => ?_)
      refine lv_goto (tgt := 4) hx hb dX9_isFit_44 (by decide) ?_
      obtain ⟨n1_, hlt_, hi_⟩ := vc
      exact ih_1 n1_ ((0 : Int32), x_4) hlt_ hi_ _ _ hP hD hS ls (lv_sub hl [2, 3, 1, 0] rfl)
    · replace vc := vc.2 c_
      refine lv_iload_n hx hb dX9_isFit_16 rfl (lv_at hl 1 rfl) ?_
      refine lv_aload_n hx hb dX9_isFit_17 rfl (lv_at hl 0 rfl) ?_
      refine va_get (D := D) (ci := 9) (v := .ref h_this_sightSundays) (C := RX9) (T := TX9) (N := 30) hx hb hts mcX9_isFit_X9 hown hK.1 hP 0 rfl rfl 6 (by decide) (hts _ mwX9_isFit_2) (fun _ h9 => h9) rfl dX9_isFit_18 ?_
      refine lv_iload_n hx hb dX9_isFit_21 rfl (lv_at hl 3 rfl) ?_
      have hi_5 := vc.1
      replace vc := vc.2
      refine va_iald hx hb hK.1 hP 1 0 rfl rfl hi_5 dX9_isFit_22 ?_
      refine kj0_i (rest := []) (kS ⟨hx, hb, hml, hown, hts⟩ (kX9_woolBy _ p0 (v_sightSundays (i_3).toNatClampNeg) vc.1) (va_cwS 2 hts gX9_isFit_X9_woolBy rfl rfl rfl (by decide +kernel) ⟨(Nat.le_of_ble_eq_true rfl), (Nat.le_of_ble_eq_true rfl)⟩) hK rfl rfl hl.1 (Nat.le_of_ble_eq_true rfl) dX9_isFit_23 ⟨(Nat.le_of_ble_eq_true rfl), (Nat.le_of_ble_eq_true rfl)⟩) hP hS hA (fun r_6 H locs hq_ hP hS => ?_)
      replace vc := vc.2 r_6 hq_
      have hP : va_P D vwCl [(h_this, .inr (9, [.int v_present, .ref h_this_wool, .ref h_this_stitches, .ref h_this_place, .int v_chest, .int v_years, .ref h_this_sightSundays, .ref h_this_sightWool, .int v_sights, .ref h_this_pad, .int v_padMany, .ref h_this_act, .ref h_this_which, .ref h_this_much, .int v_acts, .int v_sweptMany, .ref h_this_had, .int v_badAct, .int v_badWhy, .int v_sweptAct, .int v_sweptWhich, .ref h_this_rows, .ref h_this_groups, .ref h_this_covers, .ref h_this_byWool, .ref h_this_wins, .ref h_this_kept, .ref h_this_isKept, .int v_keptAt, .int v_isWriting])), (h_this_sightSundays, .inl (cI, 8, .inl v_sightSundays)), (h_this_sightWool, .inl (cI, 8, .inl v_sightWool))] H := hP
      refine lv_aload_n hx hb dX9_isFit_26 rfl (lv_at hl 0 rfl) ?_
      refine va_get (D := D) (ci := 9) (v := .ref h_this_sightWool) (C := RX9) (T := TX9) (N := 30) hx hb hts mcX9_isFit_X9 hown hK.1 hP 0 rfl rfl 7 (by decide) (hts _ mwX9_isFit_3) (fun _ h9 => h9) rfl dX9_isFit_27 ?_
      refine lv_iload_n hx hb dX9_isFit_30 rfl (lv_at hl 3 rfl) ?_
      have hi_7 := vc.1
      replace vc := vc.2
      refine va_iald hx hb hK.1 hP 2 0 rfl rfl hi_7 dX9_isFit_31 ?_
      refine lv_icmp_ne (tgt := 39) hx hb dX9_isFit_32 (by decide) (fun c_ => ?_) (fun c_ => ?_)
      · replace vc := vc.1 c_
        refine lv_iconst (v := (0 : Int32)) hx hb dX9_isFit_39 (by decide) ?_
        refine lv_istore_n (lv' := [(2, .int (0 : Int32)), (0, .ref h_this), (1, .int p0), (3, .int i_3)]) hx hb dX9_isFit_40 rfl hl (by decide) rfl (fun ls hl => ?_)
        obtain ⟨x_8, ex_8⟩ : ∃ y_ : Int32, y_ = (i_3 + (1 : Int32)) := ⟨_, rfl⟩
        replace vc := vc x_8 ex_8
        refine lv_iinc (v := x_8) (lv' := [(3, .int x_8), (2, .int (0 : Int32)), (0, .ref h_this), (1, .int p0)]) hx hb dX9_isFit_41 hl (k := 3) rfl (by rw [ex_8]; rfl) (by decide) rfl (fun ls hl => ?_)
        refine lv_goto (tgt := 4) hx hb dX9_isFit_44 (by decide) ?_
        obtain ⟨n1_, hlt_, hi_⟩ := vc
        exact ih_1 n1_ ((0 : Int32), x_8) hlt_ hi_ _ _ hP hD hS ls (lv_sub hl [2, 3, 1, 0] rfl)
      · replace vc := vc.2 c_
        refine lv_iconst (v := (1 : Int32)) hx hb dX9_isFit_35 (by decide) ?_
        refine lv_goto (tgt := 40) hx hb dX9_isFit_36 (by decide) ?_
        refine lv_istore_n (lv' := [(2, .int (1 : Int32)), (0, .ref h_this), (1, .int p0), (3, .int i_3)]) hx hb dX9_isFit_40 rfl hl (by decide) rfl (fun ls hl => ?_)
        obtain ⟨x_9, ex_9⟩ : ∃ y_ : Int32, y_ = (i_3 + (1 : Int32)) := ⟨_, rfl⟩
        replace vc := vc x_9 ex_9
        refine lv_iinc (v := x_9) (lv' := [(3, .int x_9), (2, .int (1 : Int32)), (0, .ref h_this), (1, .int p0)]) hx hb dX9_isFit_41 hl (k := 3) rfl (by rw [ex_9]; rfl) (by decide) rfl (fun ls hl => ?_)
        refine lv_goto (tgt := 4) hx hb dX9_isFit_44 (by decide) ?_
        obtain ⟨n1_, hlt_, hi_⟩ := vc
        exact ih_1 n1_ ((1 : Int32), x_9) hlt_ hi_ _ _ hP hD hS ls (lv_sub hl [2, 3, 1, 0] rfl)

def KX9_fits (l : Launch) (D : va_G) (cI cZ : ClassId) (P : Int32 → Int32 → (Nat → Int32) → (Nat → Int32) → Prop) (Q : Int32 → Int32 → (Nat → Int32) → (Nat → Int32) → Int32 → Prop) : Prop := ∀ (sz : Nat) (h_this h_this_wool h_this_stitches h_this_place h_this_sightSundays h_this_sightWool h_this_pad h_this_act h_this_which h_this_much h_this_had h_this_rows h_this_groups h_this_covers h_this_byWool h_this_wins h_this_kept h_this_isKept : Nat) (p0 : Int32) (v_present : Int32) (v_chest : Int32) (v_years : Int32) (v_sights : Int32) (v_padMany : Int32) (v_acts : Int32) (v_sweptMany : Int32) (v_badAct : Int32) (v_badWhy : Int32) (v_sweptAct : Int32) (v_sweptWhich : Int32) (v_keptAt : Int32) (v_isWriting : Int32) (v_sightSundays : (Nat → Int32)) (v_sightWool : (Nat → Int32)), P p0 v_sights v_sightSundays v_sightWool → MI l yX9_fits wsX9_fits ({ frames := 2, cells := 0, slots := 0, locals := 45 }) [.ref h_this, .int p0] D cI cZ sz [(h_this, .inr (9, [.int v_present, .ref h_this_wool, .ref h_this_stitches, .ref h_this_place, .int v_chest, .int v_years, .ref h_this_sightSundays, .ref h_this_sightWool, .int v_sights, .ref h_this_pad, .int v_padMany, .ref h_this_act, .ref h_this_which, .ref h_this_much, .int v_acts, .int v_sweptMany, .ref h_this_had, .int v_badAct, .int v_badWhy, .int v_sweptAct, .int v_sweptWhich, .ref h_this_rows, .ref h_this_groups, .ref h_this_covers, .ref h_this_byWool, .ref h_this_wins, .ref h_this_kept, .ref h_this_isKept, .int v_keptAt, .int v_isWriting])), (h_this_sightSundays, .inl (cI, 8, .inl v_sightSundays)), (h_this_sightWool, .inl (cI, 8, .inl v_sightWool))] (fun r (u : Unit) => Q p0 v_sights v_sightSundays v_sightWool r ) (fun u => [(h_this, .inr (9, [.int v_present, .ref h_this_wool, .ref h_this_stitches, .ref h_this_place, .int v_chest, .int v_years, .ref h_this_sightSundays, .ref h_this_sightWool, .int v_sights, .ref h_this_pad, .int v_padMany, .ref h_this_act, .ref h_this_which, .ref h_this_much, .int v_acts, .int v_sweptMany, .ref h_this_had, .int v_badAct, .int v_badWhy, .int v_sweptAct, .int v_sweptWhich, .ref h_this_rows, .ref h_this_groups, .ref h_this_covers, .ref h_this_byWool, .ref h_this_wins, .ref h_this_kept, .ref h_this_isKept, .int v_keptAt, .int v_isWriting])), (h_this_sightSundays, .inl (cI, 8, .inl v_sightSundays)), (h_this_sightWool, .inl (cI, 8, .inl v_sightWool))]) 0 0
set_option maxHeartbeats 4000000 in
set_option maxRecDepth 100000 in
theorem walkX9_fits {l : Launch} {D : va_G} {cI cZ : ClassId} {PX9_fits : Int32 → Int32 → (Nat → Int32) → (Nat → Int32) → Prop} {QX9_fits : Int32 → Int32 → (Nat → Int32) → (Nat → Int32) → Int32 → Prop} {PX9_isFit : Int32 → Int32 → (Nat → Int32) → (Nat → Int32) → Prop} {QX9_isFit : Int32 → Int32 → (Nat → Int32) → (Nat → Int32) → Int32 → Prop} (kX9_isFit : KX9_isFit l D cI cZ PX9_isFit QX9_isFit) (IX9_fits_5 : Int32 → Int32 → (Nat → Int32) → (Nat → Int32) → Nat → Int32 → Int32 → Int32 → Prop) (hvc : ∀ (p0 : Int32) (v_sights : Int32) (v_sightSundays : (Nat → Int32)) (v_sightWool : (Nat → Int32)), PX9_fits p0 v_sights v_sightSundays v_sightWool → ((∃ n0 : Nat, IX9_fits_5 p0 v_sights v_sightSundays v_sightWool n0 p0 (0 : Int32) (10 : Int32)) ∧ (∀ (n_1 : Nat) (i_2 : Int32) (i_3 : Int32), (IX9_fits_5 p0 v_sights v_sightSundays v_sightWool n_1 p0 i_3 i_2 → (((100 : Int32) ≤ i_2 → ((¬ p0 = (-1 : Int32) → (QX9_fits p0 v_sights v_sightSundays v_sightWool (-6 : Int32) )) ∧ (p0 = (-1 : Int32) → (QX9_fits p0 v_sights v_sightSundays v_sightWool i_3 )))) ∧ (¬ (100 : Int32) ≤ i_2 → (PX9_isFit i_2 v_sights v_sightSundays v_sightWool ∧ (∀ (r_4 : Int32), QX9_isFit i_2 v_sights v_sightSundays v_sightWool r_4  → ((r_4 = 0 → (∀ x_5 : Int32, x_5 = (i_2 + (1 : Int32)) → (∃ n1 : Nat, n1 < n_1 ∧ IX9_fits_5 p0 v_sights v_sightSundays v_sightWool n1 p0 i_3 x_5))) ∧ (¬ r_4 = 0 → ((¬ i_3 = p0 → (∀ x_6 : Int32, x_6 = (i_3 + (1 : Int32)) → (∀ x_7 : Int32, x_7 = (i_2 + (1 : Int32)) → (∃ n1 : Nat, n1 < n_1 ∧ IX9_fits_5 p0 v_sights v_sightSundays v_sightWool n1 p0 x_6 x_7)))) ∧ (i_3 = p0 → (QX9_fits p0 v_sights v_sightSundays v_sightWool i_2 ))))))))))))) : KX9_fits l D cI cZ PX9_fits QX9_fits := by
  intro sz h_this h_this_wool h_this_stitches h_this_place h_this_sightSundays h_this_sightWool h_this_pad h_this_act h_this_which h_this_much h_this_had h_this_rows h_this_groups h_this_covers h_this_byWool h_this_wins h_this_kept h_this_isKept p0 v_present v_chest v_years v_sights v_padMany v_acts v_sweptMany v_badAct v_badWhy v_sweptAct v_sweptWhich v_keptAt v_isWriting v_sightSundays v_sightWool hpre
  have vc := hvc p0 v_sights v_sightSundays v_sightWool hpre
  clear hvc
  refine Met.ofW (cc := cX9_fits) (maxL := 4) (ret := (some .int)) (by decide) rfl ?_
  intro p e s m args below meth c s₁ B hml hv
  obtain ⟨rfl, hsz, hP, hK, hD0⟩ := hv
  have hx := B.exec
  have hb := B.bytes
  have hr := B.returns
  have hts := atoms_spec (ws := wsX9_fits) B.pre
  have hown : s.vm.findClass RX9 = some m.cls := findClass_of_methodNamed B.named
  have hlocks := B.notSynchronized
  subst hsz
  have hD := hD0.self (sz := s.heap.size)
  generalize hAe : va_A [(h_this, .inr (9, [.int v_present, .ref h_this_wool, .ref h_this_stitches, .ref h_this_place, .int v_chest, .int v_years, .ref h_this_sightSundays, .ref h_this_sightWool, .int v_sights, .ref h_this_pad, .int v_padMany, .ref h_this_act, .ref h_this_which, .ref h_this_much, .int v_acts, .int v_sweptMany, .ref h_this_had, .int v_badAct, .int v_badWhy, .int v_sweptAct, .int v_sweptWhich, .ref h_this_rows, .ref h_this_groups, .ref h_this_covers, .ref h_this_byWool, .ref h_this_wins, .ref h_this_kept, .ref h_this_isKept, .int v_keptAt, .int v_isWriting])), (h_this_sightSundays, .inl (cI, 8, .inl v_sightSundays)), (h_this_sightWool, .inl (cI, 8, .inl v_sightWool))] s.heap.size = A at hD ⊢
  have hA : ∀ q : Nat, s.heap.size ≤ q → A q := fun q h => by rw [← hAe]; exact Or.inr h
  have hS : va_S A s.heap s.heap [] := va_S.rf
  have hP : va_P D vwCl [(h_this, .inr (9, [.int v_present, .ref h_this_wool, .ref h_this_stitches, .ref h_this_place, .int v_chest, .int v_years, .ref h_this_sightSundays, .ref h_this_sightWool, .int v_sights, .ref h_this_pad, .int v_padMany, .ref h_this_act, .ref h_this_which, .ref h_this_much, .int v_acts, .int v_sweptMany, .ref h_this_had, .int v_badAct, .int v_badWhy, .int v_sweptAct, .int v_sweptWhich, .ref h_this_rows, .ref h_this_groups, .ref h_this_covers, .ref h_this_byWool, .ref h_this_wins, .ref h_this_kept, .ref h_this_isKept, .int v_keptAt, .int v_isWriting])), (h_this_sightSundays, .inl (cI, 8, .inl v_sightSundays)), (h_this_sightWool, .inl (cI, 8, .inl v_sightWool))] s.heap := hP
  have hl := lv_entry ([.ref h_this, .int p0]) (n := 4) (Nat.le_of_ble_eq_true rfl)
  rw [lg_entry_eq]
  generalize (lg_sl ([.ref h_this, .int p0]) ++ List.replicate (4 - (lg_sl ([.ref h_this, .int p0])).length) Slot.unset).toArray = ls at hl ⊢
  have hl : lv_has ls 4 [(0, .ref h_this), (1, .int p0)] := hl
  refine lv_iconst (v := (0 : Int32)) hx hb dX9_fits_0 (by decide) ?_
  refine lv_istore_n (lv' := [(2, .int (0 : Int32)), (0, .ref h_this), (1, .int p0)]) hx hb dX9_fits_1 rfl hl (by decide) rfl (fun ls hl => ?_)
  refine lv_bipush (v := (10 : Int32)) hx hb dX9_fits_2 (by decide) ?_
  refine lv_istore_n (lv' := [(3, .int (10 : Int32)), (2, .int (0 : Int32)), (0, .ref h_this), (1, .int p0)]) hx hb dX9_fits_4 rfl hl (by decide) rfl (fun ls hl => ?_)
  obtain ⟨⟨n0_1, hi0_1⟩, vc⟩ := vc
  refine kloop (V := Int32 × Int32) (I := fun n v => IX9_fits_5 p0 v_sights v_sightSundays v_sightWool n p0 (v.2) (v.1)) (wv := fun v => [(h_this, .inr (9, [.int v_present, .ref h_this_wool, .ref h_this_stitches, .ref h_this_place, .int v_chest, .int v_years, .ref h_this_sightSundays, .ref h_this_sightWool, .int v_sights, .ref h_this_pad, .int v_padMany, .ref h_this_act, .ref h_this_which, .ref h_this_much, .int v_acts, .int v_sweptMany, .ref h_this_had, .int v_badAct, .int v_badWhy, .int v_sweptAct, .int v_sweptWhich, .ref h_this_rows, .ref h_this_groups, .ref h_this_covers, .ref h_this_byWool, .ref h_this_wins, .ref h_this_kept, .ref h_this_isKept, .int v_keptAt, .int v_isWriting])), (h_this_sightSundays, .inl (cI, 8, .inl v_sightSundays)), (h_this_sightWool, .inl (cI, 8, .inl v_sightWool))]) (lv := fun v => [(0, .ref h_this), (1, .int p0), (2, .int (v.2)), (3, .int (v.1))]) n0_1 ((10 : Int32), (0 : Int32)) hi0_1 hP hD hS (lv_sub hl [2, 3, 1, 0] rfl) ?_
  intro n_1 v_1 hi_1 ih_1 H locs hP hD hS ls hl
  obtain ⟨i_2, i_3⟩ := v_1
  replace vc := vc n_1 i_2 i_3 hi_1
  have hP : va_P D vwCl [(h_this, .inr (9, [.int v_present, .ref h_this_wool, .ref h_this_stitches, .ref h_this_place, .int v_chest, .int v_years, .ref h_this_sightSundays, .ref h_this_sightWool, .int v_sights, .ref h_this_pad, .int v_padMany, .ref h_this_act, .ref h_this_which, .ref h_this_much, .int v_acts, .int v_sweptMany, .ref h_this_had, .int v_badAct, .int v_badWhy, .int v_sweptAct, .int v_sweptWhich, .ref h_this_rows, .ref h_this_groups, .ref h_this_covers, .ref h_this_byWool, .ref h_this_wins, .ref h_this_kept, .ref h_this_isKept, .int v_keptAt, .int v_isWriting])), (h_this_sightSundays, .inl (cI, 8, .inl v_sightSundays)), (h_this_sightWool, .inl (cI, 8, .inl v_sightWool))] H := hP
  have hD : va_D A [(h_this, .inr (9, [.int v_present, .ref h_this_wool, .ref h_this_stitches, .ref h_this_place, .int v_chest, .int v_years, .ref h_this_sightSundays, .ref h_this_sightWool, .int v_sights, .ref h_this_pad, .int v_padMany, .ref h_this_act, .ref h_this_which, .ref h_this_much, .int v_acts, .int v_sweptMany, .ref h_this_had, .int v_badAct, .int v_badWhy, .int v_sweptAct, .int v_sweptWhich, .ref h_this_rows, .ref h_this_groups, .ref h_this_covers, .ref h_this_byWool, .ref h_this_wins, .ref h_this_kept, .ref h_this_isKept, .int v_keptAt, .int v_isWriting])), (h_this_sightSundays, .inl (cI, 8, .inl v_sightSundays)), (h_this_sightWool, .inl (cI, 8, .inl v_sightWool))] := hD
  have hl : lv_has ls 4 [(0, .ref h_this), (1, .int p0), (2, .int i_3), (3, .int i_2)] := hl
  refine lv_iload_n hx hb dX9_fits_5 rfl (lv_at hl 3 rfl) ?_
  refine lv_bipush (v := (100 : Int32)) hx hb dX9_fits_6 (by decide) ?_
  refine lv_icmp_ge (tgt := 35) hx hb dX9_fits_8 (by decide) (fun c_ => ?_) (fun c_ => ?_)
  · replace vc := vc.1 c_
    refine lv_iload_n hx hb dX9_fits_35 rfl (lv_at hl 1 rfl) ?_
    refine lv_iconst (v := (-1 : Int32)) hx hb dX9_fits_36 (by decide) ?_
    refine lv_icmp_ne (tgt := 44) hx hb dX9_fits_37 (by decide) (fun c_ => ?_) (fun c_ => ?_)
    · replace vc := vc.1 c_
      refine lv_bipush (v := (-6 : Int32)) hx hb dX9_fits_44 (by decide) ?_
      exact W.iret (v := (-6 : Int32)) hx hb hr (fun t ht hW => ⟨⟨(-6 : Int32), (), rfl, vc, QB_mk (hP.sub [0, 1, 2] rfl) (hD.sub [0, 1, 2] rfl rfl) ht⟩, hS.F ht⟩) hS.2.2 dX9_fits_46
    · replace vc := vc.2 c_
      refine lv_iload_n hx hb dX9_fits_40 rfl (lv_at hl 2 rfl) ?_
      refine lv_goto (tgt := 46) hx hb dX9_fits_41 (by decide) ?_
      exact W.iret (v := i_3) hx hb hr (fun t ht hW => ⟨⟨i_3, (), rfl, vc, QB_mk (hP.sub [0, 1, 2] rfl) (hD.sub [0, 1, 2] rfl rfl) ht⟩, hS.F ht⟩) hS.2.2 dX9_fits_46
  · replace vc := vc.2 c_
    refine lv_aload_n hx hb dX9_fits_11 rfl (lv_at hl 0 rfl) ?_
    refine lv_iload_n hx hb dX9_fits_12 rfl (lv_at hl 3 rfl) ?_
    refine kj_i (wr := []) (rest := []) (kV ⟨hx, hb, hml, hown, hts⟩ (kX9_isFit _ h_this h_this_wool h_this_stitches h_this_place h_this_sightSundays h_this_sightWool h_this_pad h_this_act h_this_which h_this_much h_this_had h_this_rows h_this_groups h_this_covers h_this_byWool h_this_wins h_this_kept h_this_isKept i_2 v_present v_chest v_years v_sights v_padMany v_acts v_sweptMany v_badAct v_badWhy v_sweptAct v_sweptWhich v_keptAt v_isWriting v_sightSundays v_sightWool vc.1) (cwV 1 hts gX9_fits_X9_isFit rfl rfl rfl (by decide +kernel) ⟨(Nat.le_of_ble_eq_true rfl), (Nat.le_of_ble_eq_true rfl)⟩) hK hP hD [0, 1, 2] rfl rfl 0 9 rfl rfl rfl rfl rfl hl.1 (Nat.le_of_ble_eq_true rfl) dX9_fits_13 ⟨(Nat.le_of_ble_eq_true rfl), (Nat.le_of_ble_eq_true rfl)⟩) hP hD hS hA [0, 1, 2] [] rfl rfl rfl rfl (fun r_4 u_ H locs hq_ hP hD hS => ?_)
    replace vc := vc.2 r_4  hq_
    have hP : va_P D vwCl [(h_this, .inr (9, [.int v_present, .ref h_this_wool, .ref h_this_stitches, .ref h_this_place, .int v_chest, .int v_years, .ref h_this_sightSundays, .ref h_this_sightWool, .int v_sights, .ref h_this_pad, .int v_padMany, .ref h_this_act, .ref h_this_which, .ref h_this_much, .int v_acts, .int v_sweptMany, .ref h_this_had, .int v_badAct, .int v_badWhy, .int v_sweptAct, .int v_sweptWhich, .ref h_this_rows, .ref h_this_groups, .ref h_this_covers, .ref h_this_byWool, .ref h_this_wins, .ref h_this_kept, .ref h_this_isKept, .int v_keptAt, .int v_isWriting])), (h_this_sightSundays, .inl (cI, 8, .inl v_sightSundays)), (h_this_sightWool, .inl (cI, 8, .inl v_sightWool))] H := hP
    have hD : va_D A [(h_this, .inr (9, [.int v_present, .ref h_this_wool, .ref h_this_stitches, .ref h_this_place, .int v_chest, .int v_years, .ref h_this_sightSundays, .ref h_this_sightWool, .int v_sights, .ref h_this_pad, .int v_padMany, .ref h_this_act, .ref h_this_which, .ref h_this_much, .int v_acts, .int v_sweptMany, .ref h_this_had, .int v_badAct, .int v_badWhy, .int v_sweptAct, .int v_sweptWhich, .ref h_this_rows, .ref h_this_groups, .ref h_this_covers, .ref h_this_byWool, .ref h_this_wins, .ref h_this_kept, .ref h_this_isKept, .int v_keptAt, .int v_isWriting])), (h_this_sightSundays, .inl (cI, 8, .inl v_sightSundays)), (h_this_sightWool, .inl (cI, 8, .inl v_sightWool))] := hD
    refine lv_if_eq (tgt := 29) hx hb dX9_fits_16 (by decide) (fun c_ => ?_) (fun c_ => ?_)
    · replace vc := vc.1 c_
      obtain ⟨x_5, ex_5⟩ : ∃ y_ : Int32, y_ = (i_2 + (1 : Int32)) := ⟨_, rfl⟩
      replace vc := vc x_5 ex_5
      refine lv_iinc (v := x_5) (lv' := [(3, .int x_5), (0, .ref h_this), (1, .int p0), (2, .int i_3)]) hx hb dX9_fits_29 hl (k := 3) rfl (by rw [ex_5]; rfl) (by decide) rfl (fun ls hl => ?_)
      refine lv_goto (tgt := 5) hx hb dX9_fits_32 (by decide) ?_
      obtain ⟨n1_, hlt_, hi_⟩ := vc
      exact ih_1 n1_ (x_5, i_3) hlt_ hi_ _ _ hP hD hS ls (lv_sub hl [1, 2, 3, 0] rfl)
    · replace vc := vc.2 c_
      refine lv_iload_n hx hb dX9_fits_19 rfl (lv_at hl 2 rfl) ?_
      refine lv_iload_n hx hb dX9_fits_20 rfl (lv_at hl 1 rfl) ?_
      refine lv_icmp_ne (tgt := 26) hx hb dX9_fits_21 (by decide) (fun c_ => ?_) (fun c_ => ?_)
      · replace vc := vc.1 c_
        obtain ⟨x_6, ex_6⟩ : ∃ y_ : Int32, y_ = (i_3 + (1 : Int32)) := ⟨_, rfl⟩
        replace vc := vc x_6 ex_6
        refine lv_iinc (v := x_6) (lv' := [(2, .int x_6), (0, .ref h_this), (1, .int p0), (3, .int i_2)]) hx hb dX9_fits_26 hl (k := 2) rfl (by rw [ex_6]; rfl) (by decide) rfl (fun ls hl => ?_)
        obtain ⟨x_7, ex_7⟩ : ∃ y_ : Int32, y_ = (i_2 + (1 : Int32)) := ⟨_, rfl⟩
        replace vc := vc x_7 ex_7
        refine lv_iinc (v := x_7) (lv' := [(3, .int x_7), (2, .int x_6), (0, .ref h_this), (1, .int p0)]) hx hb dX9_fits_29 hl (k := 3) rfl (by rw [ex_7]; rfl) (by decide) rfl (fun ls hl => ?_)
        refine lv_goto (tgt := 5) hx hb dX9_fits_32 (by decide) ?_
        obtain ⟨n1_, hlt_, hi_⟩ := vc
        exact ih_1 n1_ (x_7, x_6) hlt_ hi_ _ _ hP hD hS ls (lv_sub hl [2, 3, 1, 0] rfl)
      · replace vc := vc.2 c_
        refine lv_iload_n hx hb dX9_fits_24 rfl (lv_at hl 3 rfl) ?_
        exact W.iret (v := i_2) hx hb hr (fun t ht hW => ⟨⟨i_2, (), rfl, vc, QB_mk (hP.sub [0, 1, 2] rfl) (hD.sub [0, 1, 2] rfl rfl) ht⟩, hS.F ht⟩) hS.2.2 dX9_fits_25

theorem mwX9_mostLeft_1 : Cond.fieldLink RX9 50 "HassockSeeModel" "byWool" "[I" ∈ wsX9_mostLeft := List.mem_of_getElem? (i := 1) rfl
theorem mcX9_mostLeft_X9 : ∀ w ∈ u_ws RX9 TX9 30, w ∈ wsX9_mostLeft := fun _ h => (List.mem_cons_of_mem _ (List.mem_append_right _ h))
def KX9_mostLeft (l : Launch) (D : va_G) (cI cZ : ClassId) (P : Int32 → Int32 → (Nat → Int32) → (Nat → Int32) → (Nat → Int32) → Prop) (Q : Int32 → Int32 → (Nat → Int32) → (Nat → Int32) → (Nat → Int32) → Int32 → (Nat → Int32) → Prop) : Prop := ∀ (sz : Nat) (h_this h_this_wool h_this_stitches h_this_place h_this_sightSundays h_this_sightWool h_this_pad h_this_act h_this_which h_this_much h_this_had h_this_rows h_this_groups h_this_covers h_this_byWool h_this_wins h_this_kept h_this_isKept : Nat) (p0 : Int32) (v_present : Int32) (v_chest : Int32) (v_years : Int32) (v_sights : Int32) (v_padMany : Int32) (v_acts : Int32) (v_sweptMany : Int32) (v_badAct : Int32) (v_badWhy : Int32) (v_sweptAct : Int32) (v_sweptWhich : Int32) (v_keptAt : Int32) (v_isWriting : Int32) (v_byWool : (Nat → Int32)) (v_sightSundays : (Nat → Int32)) (v_sightWool : (Nat → Int32)), P p0 v_sights v_byWool v_sightSundays v_sightWool → MI l yX9_mostLeft wsX9_mostLeft ({ frames := 2, cells := 0, slots := 0, locals := 45 }) [.ref h_this, .int p0] D cI cZ sz [(h_this, .inr (9, [.int v_present, .ref h_this_wool, .ref h_this_stitches, .ref h_this_place, .int v_chest, .int v_years, .ref h_this_sightSundays, .ref h_this_sightWool, .int v_sights, .ref h_this_pad, .int v_padMany, .ref h_this_act, .ref h_this_which, .ref h_this_much, .int v_acts, .int v_sweptMany, .ref h_this_had, .int v_badAct, .int v_badWhy, .int v_sweptAct, .int v_sweptWhich, .ref h_this_rows, .ref h_this_groups, .ref h_this_covers, .ref h_this_byWool, .ref h_this_wins, .ref h_this_kept, .ref h_this_isKept, .int v_keptAt, .int v_isWriting])), (h_this_byWool, .inl (cI, 100, .inl v_byWool)), (h_this_sightSundays, .inl (cI, 8, .inl v_sightSundays)), (h_this_sightWool, .inl (cI, 8, .inl v_sightWool))] (fun r (u : (Nat → Int32)) => Q p0 v_sights v_byWool v_sightSundays v_sightWool r u) (fun u => [(h_this, .inr (9, [.int v_present, .ref h_this_wool, .ref h_this_stitches, .ref h_this_place, .int v_chest, .int v_years, .ref h_this_sightSundays, .ref h_this_sightWool, .int v_sights, .ref h_this_pad, .int v_padMany, .ref h_this_act, .ref h_this_which, .ref h_this_much, .int v_acts, .int v_sweptMany, .ref h_this_had, .int v_badAct, .int v_badWhy, .int v_sweptAct, .int v_sweptWhich, .ref h_this_rows, .ref h_this_groups, .ref h_this_covers, .ref h_this_byWool, .ref h_this_wins, .ref h_this_kept, .ref h_this_isKept, .int v_keptAt, .int v_isWriting])), (h_this_byWool, .inl (cI, 100, .inl u)), (h_this_sightSundays, .inl (cI, 8, .inl v_sightSundays)), (h_this_sightWool, .inl (cI, 8, .inl v_sightWool))]) 0 0
set_option maxHeartbeats 4000000 in
set_option maxRecDepth 100000 in
theorem walkX9_mostLeft {l : Launch} {D : va_G} {cI cZ : ClassId} {PX9_mostLeft : Int32 → Int32 → (Nat → Int32) → (Nat → Int32) → (Nat → Int32) → Prop} {QX9_mostLeft : Int32 → Int32 → (Nat → Int32) → (Nat → Int32) → (Nat → Int32) → Int32 → (Nat → Int32) → Prop} {PX9_isFit : Int32 → Int32 → (Nat → Int32) → (Nat → Int32) → Prop} {QX9_isFit : Int32 → Int32 → (Nat → Int32) → (Nat → Int32) → Int32 → Prop} {PX9_woolBy : Int32 → Int32 → Prop} {QX9_woolBy : Int32 → Int32 → Int32 → Prop} (kX9_isFit : KX9_isFit l D cI cZ PX9_isFit QX9_isFit) (kX9_woolBy : KX9_woolBy l D cI cZ PX9_woolBy QX9_woolBy) (IX9_mostLeft_4 : Int32 → Int32 → (Nat → Int32) → (Nat → Int32) → (Nat → Int32) → Nat → Int32 → Int32 → Int32 → (Nat → Int32) → Prop) (IX9_mostLeft_26 : Int32 → Int32 → (Nat → Int32) → (Nat → Int32) → (Nat → Int32) → Nat → Int32 → Int32 → Int32 → (Nat → Int32) → Prop) (hvc : ∀ (p0 : Int32) (v_sights : Int32) (v_byWool : (Nat → Int32)) (v_sightSundays : (Nat → Int32)) (v_sightWool : (Nat → Int32)), PX9_mostLeft p0 v_sights v_byWool v_sightSundays v_sightWool → ((∃ n0 : Nat, IX9_mostLeft_4 p0 v_sights v_byWool v_sightSundays v_sightWool n0 p0 (0 : Int32) (0 : Int32) v_byWool) ∧ (∀ (n_1 : Nat) (i_2 : Int32) (f_3 : (Nat → Int32)), (IX9_mostLeft_4 p0 v_sights v_byWool v_sightSundays v_sightWool n_1 p0 (0 : Int32) i_2 f_3 → (((100 : Int32) ≤ i_2 → ((∃ n0 : Nat, IX9_mostLeft_26 p0 v_sights v_byWool v_sightSundays v_sightWool n0 p0 (0 : Int32) (10 : Int32) f_3) ∧ (∀ (n_4 : Nat) (i_5 : Int32) (f_6 : (Nat → Int32)) (i_7 : Int32), (IX9_mostLeft_26 p0 v_sights v_byWool v_sightSundays v_sightWool n_4 p0 i_7 i_5 f_6 → (((100 : Int32) ≤ i_5 → (QX9_mostLeft p0 v_sights v_byWool v_sightSundays v_sightWool i_7 f_6)) ∧ (¬ (100 : Int32) ≤ i_5 → (PX9_isFit i_5 v_sights v_sightSundays v_sightWool ∧ (∀ (r_8 : Int32), QX9_isFit i_5 v_sights v_sightSundays v_sightWool r_8  → ((r_8 = 0 → (∀ x_9 : Int32, x_9 = (i_5 + (1 : Int32)) → (∃ n1 : Nat, n1 < n_4 ∧ IX9_mostLeft_26 p0 v_sights v_byWool v_sightSundays v_sightWool n1 p0 i_7 x_9 f_6))) ∧ (¬ r_8 = 0 → (PX9_woolBy i_5 p0 ∧ (∀ r_10 : Int32, QX9_woolBy i_5 p0 r_10 → (vp_in r_10 100 ∧ (∀ x_12 : Int32, x_12 = ((f_6 (r_10).toNatClampNeg) + (1 : Int32)) → (vp_in r_10 100 ∧ (PX9_woolBy i_5 p0 ∧ (∀ r_14 : Int32, QX9_woolBy i_5 p0 r_14 → (vp_in r_14 100 ∧ ((((upd f_6 (r_10).toNatClampNeg x_12) (r_14).toNatClampNeg) ≤ i_7 → (∀ x_16 : Int32, x_16 = (i_5 + (1 : Int32)) → (∃ n1 : Nat, n1 < n_4 ∧ IX9_mostLeft_26 p0 v_sights v_byWool v_sightSundays v_sightWool n1 p0 i_7 x_16 (upd f_6 (r_10).toNatClampNeg x_12)))) ∧ (¬ ((upd f_6 (r_10).toNatClampNeg x_12) (r_14).toNatClampNeg) ≤ i_7 → (PX9_woolBy i_5 p0 ∧ (∀ r_17 : Int32, QX9_woolBy i_5 p0 r_17 → (vp_in r_17 100 ∧ (∀ x_19 : Int32, x_19 = ((upd f_6 (r_10).toNatClampNeg x_12) (r_17).toNatClampNeg) → (∀ x_20 : Int32, x_20 = (i_5 + (1 : Int32)) → (∃ n1 : Nat, n1 < n_4 ∧ IX9_mostLeft_26 p0 v_sights v_byWool v_sightSundays v_sightWool n1 p0 x_19 x_20 (upd f_6 (r_10).toNatClampNeg x_12))))))))))))))))))))))))))) ∧ (¬ (100 : Int32) ≤ i_2 → (vp_in i_2 100 ∧ (∀ x_22 : Int32, x_22 = (i_2 + (1 : Int32)) → (∃ n1 : Nat, n1 < n_1 ∧ IX9_mostLeft_4 p0 v_sights v_byWool v_sightSundays v_sightWool n1 p0 (0 : Int32) x_22 (upd f_3 (i_2).toNatClampNeg (0 : Int32))))))))))) : KX9_mostLeft l D cI cZ PX9_mostLeft QX9_mostLeft := by
  intro sz h_this h_this_wool h_this_stitches h_this_place h_this_sightSundays h_this_sightWool h_this_pad h_this_act h_this_which h_this_much h_this_had h_this_rows h_this_groups h_this_covers h_this_byWool h_this_wins h_this_kept h_this_isKept p0 v_present v_chest v_years v_sights v_padMany v_acts v_sweptMany v_badAct v_badWhy v_sweptAct v_sweptWhich v_keptAt v_isWriting v_byWool v_sightSundays v_sightWool hpre
  have vc := hvc p0 v_sights v_byWool v_sightSundays v_sightWool hpre
  clear hvc
  refine Met.ofW (cc := cX9_mostLeft) (maxL := 4) (ret := (some .int)) (by decide) rfl ?_
  intro p e s m args below meth c s₁ B hml hv
  obtain ⟨rfl, hsz, hP, hK, hD0⟩ := hv
  have hx := B.exec
  have hb := B.bytes
  have hr := B.returns
  have hts := atoms_spec (ws := wsX9_mostLeft) B.pre
  have hown : s.vm.findClass RX9 = some m.cls := findClass_of_methodNamed B.named
  have hlocks := B.notSynchronized
  subst hsz
  have hD := hD0.self (sz := s.heap.size)
  generalize hAe : va_A [(h_this, .inr (9, [.int v_present, .ref h_this_wool, .ref h_this_stitches, .ref h_this_place, .int v_chest, .int v_years, .ref h_this_sightSundays, .ref h_this_sightWool, .int v_sights, .ref h_this_pad, .int v_padMany, .ref h_this_act, .ref h_this_which, .ref h_this_much, .int v_acts, .int v_sweptMany, .ref h_this_had, .int v_badAct, .int v_badWhy, .int v_sweptAct, .int v_sweptWhich, .ref h_this_rows, .ref h_this_groups, .ref h_this_covers, .ref h_this_byWool, .ref h_this_wins, .ref h_this_kept, .ref h_this_isKept, .int v_keptAt, .int v_isWriting])), (h_this_byWool, .inl (cI, 100, .inl v_byWool)), (h_this_sightSundays, .inl (cI, 8, .inl v_sightSundays)), (h_this_sightWool, .inl (cI, 8, .inl v_sightWool))] s.heap.size = A at hD ⊢
  have hA : ∀ q : Nat, s.heap.size ≤ q → A q := fun q h => by rw [← hAe]; exact Or.inr h
  have hS : va_S A s.heap s.heap [] := va_S.rf
  have hP : va_P D vwCl [(h_this, .inr (9, [.int v_present, .ref h_this_wool, .ref h_this_stitches, .ref h_this_place, .int v_chest, .int v_years, .ref h_this_sightSundays, .ref h_this_sightWool, .int v_sights, .ref h_this_pad, .int v_padMany, .ref h_this_act, .ref h_this_which, .ref h_this_much, .int v_acts, .int v_sweptMany, .ref h_this_had, .int v_badAct, .int v_badWhy, .int v_sweptAct, .int v_sweptWhich, .ref h_this_rows, .ref h_this_groups, .ref h_this_covers, .ref h_this_byWool, .ref h_this_wins, .ref h_this_kept, .ref h_this_isKept, .int v_keptAt, .int v_isWriting])), (h_this_byWool, .inl (cI, 100, .inl v_byWool)), (h_this_sightSundays, .inl (cI, 8, .inl v_sightSundays)), (h_this_sightWool, .inl (cI, 8, .inl v_sightWool))] s.heap := hP
  have hl := lv_entry ([.ref h_this, .int p0]) (n := 4) (Nat.le_of_ble_eq_true rfl)
  rw [lg_entry_eq]
  generalize (lg_sl ([.ref h_this, .int p0]) ++ List.replicate (4 - (lg_sl ([.ref h_this, .int p0])).length) Slot.unset).toArray = ls at hl ⊢
  have hl : lv_has ls 4 [(0, .ref h_this), (1, .int p0)] := hl
  refine lv_iconst (v := (0 : Int32)) hx hb dX9_mostLeft_0 (by decide) ?_
  refine lv_istore_n (lv' := [(2, .int (0 : Int32)), (0, .ref h_this), (1, .int p0)]) hx hb dX9_mostLeft_1 rfl hl (by decide) rfl (fun ls hl => ?_)
  refine lv_iconst (v := (0 : Int32)) hx hb dX9_mostLeft_2 (by decide) ?_
  refine lv_istore_n (lv' := [(3, .int (0 : Int32)), (2, .int (0 : Int32)), (0, .ref h_this), (1, .int p0)]) hx hb dX9_mostLeft_3 rfl hl (by decide) rfl (fun ls hl => ?_)
  obtain ⟨⟨n0_1, hi0_1⟩, vc⟩ := vc
  refine kloop (V := Int32 × (Nat → Int32)) (I := fun n v => IX9_mostLeft_4 p0 v_sights v_byWool v_sightSundays v_sightWool n p0 (0 : Int32) (v.1) (v.2)) (wv := fun v => [(h_this, .inr (9, [.int v_present, .ref h_this_wool, .ref h_this_stitches, .ref h_this_place, .int v_chest, .int v_years, .ref h_this_sightSundays, .ref h_this_sightWool, .int v_sights, .ref h_this_pad, .int v_padMany, .ref h_this_act, .ref h_this_which, .ref h_this_much, .int v_acts, .int v_sweptMany, .ref h_this_had, .int v_badAct, .int v_badWhy, .int v_sweptAct, .int v_sweptWhich, .ref h_this_rows, .ref h_this_groups, .ref h_this_covers, .ref h_this_byWool, .ref h_this_wins, .ref h_this_kept, .ref h_this_isKept, .int v_keptAt, .int v_isWriting])), (h_this_byWool, .inl (cI, 100, .inl (v.2))), (h_this_sightSundays, .inl (cI, 8, .inl v_sightSundays)), (h_this_sightWool, .inl (cI, 8, .inl v_sightWool))]) (lv := fun v => [(0, .ref h_this), (1, .int p0), (2, .int (0 : Int32)), (3, .int (v.1))]) n0_1 ((0 : Int32), v_byWool) hi0_1 hP hD hS (lv_sub hl [2, 3, 1, 0] rfl) ?_
  intro n_1 v_1 hi_1 ih_1 H locs hP hD hS ls hl
  obtain ⟨i_2, f_3⟩ := v_1
  replace vc := vc n_1 i_2 f_3 hi_1
  have hP : va_P D vwCl [(h_this, .inr (9, [.int v_present, .ref h_this_wool, .ref h_this_stitches, .ref h_this_place, .int v_chest, .int v_years, .ref h_this_sightSundays, .ref h_this_sightWool, .int v_sights, .ref h_this_pad, .int v_padMany, .ref h_this_act, .ref h_this_which, .ref h_this_much, .int v_acts, .int v_sweptMany, .ref h_this_had, .int v_badAct, .int v_badWhy, .int v_sweptAct, .int v_sweptWhich, .ref h_this_rows, .ref h_this_groups, .ref h_this_covers, .ref h_this_byWool, .ref h_this_wins, .ref h_this_kept, .ref h_this_isKept, .int v_keptAt, .int v_isWriting])), (h_this_byWool, .inl (cI, 100, .inl f_3)), (h_this_sightSundays, .inl (cI, 8, .inl v_sightSundays)), (h_this_sightWool, .inl (cI, 8, .inl v_sightWool))] H := hP
  have hD : va_D A [(h_this, .inr (9, [.int v_present, .ref h_this_wool, .ref h_this_stitches, .ref h_this_place, .int v_chest, .int v_years, .ref h_this_sightSundays, .ref h_this_sightWool, .int v_sights, .ref h_this_pad, .int v_padMany, .ref h_this_act, .ref h_this_which, .ref h_this_much, .int v_acts, .int v_sweptMany, .ref h_this_had, .int v_badAct, .int v_badWhy, .int v_sweptAct, .int v_sweptWhich, .ref h_this_rows, .ref h_this_groups, .ref h_this_covers, .ref h_this_byWool, .ref h_this_wins, .ref h_this_kept, .ref h_this_isKept, .int v_keptAt, .int v_isWriting])), (h_this_byWool, .inl (cI, 100, .inl f_3)), (h_this_sightSundays, .inl (cI, 8, .inl v_sightSundays)), (h_this_sightWool, .inl (cI, 8, .inl v_sightWool))] := hD
  have hl : lv_has ls 4 [(0, .ref h_this), (1, .int p0), (2, .int (0 : Int32)), (3, .int i_2)] := hl
  refine lv_iload_n hx hb dX9_mostLeft_4 rfl (lv_at hl 3 rfl) ?_
  refine lv_bipush (v := (100 : Int32)) hx hb dX9_mostLeft_5 (by decide) ?_
  refine lv_icmp_ge (tgt := 23) hx hb dX9_mostLeft_7 (by decide) (fun c_ => ?_) (fun c_ => ?_)
  · replace vc := vc.1 c_
    refine lv_bipush (v := (10 : Int32)) hx hb dX9_mostLeft_23 (by decide) ?_
    refine lv_istore_n (lv' := [(3, .int (10 : Int32)), (0, .ref h_this), (1, .int p0), (2, .int (0 : Int32))]) hx hb dX9_mostLeft_25 rfl hl (by decide) rfl (fun ls hl => ?_)
    obtain ⟨⟨n0_4, hi0_4⟩, vc⟩ := vc
    refine kloop (V := Int32 × (Nat → Int32) × Int32) (I := fun n v => IX9_mostLeft_26 p0 v_sights v_byWool v_sightSundays v_sightWool n p0 (v.2.2) (v.1) (v.2.1)) (wv := fun v => [(h_this, .inr (9, [.int v_present, .ref h_this_wool, .ref h_this_stitches, .ref h_this_place, .int v_chest, .int v_years, .ref h_this_sightSundays, .ref h_this_sightWool, .int v_sights, .ref h_this_pad, .int v_padMany, .ref h_this_act, .ref h_this_which, .ref h_this_much, .int v_acts, .int v_sweptMany, .ref h_this_had, .int v_badAct, .int v_badWhy, .int v_sweptAct, .int v_sweptWhich, .ref h_this_rows, .ref h_this_groups, .ref h_this_covers, .ref h_this_byWool, .ref h_this_wins, .ref h_this_kept, .ref h_this_isKept, .int v_keptAt, .int v_isWriting])), (h_this_byWool, .inl (cI, 100, .inl (v.2.1))), (h_this_sightSundays, .inl (cI, 8, .inl v_sightSundays)), (h_this_sightWool, .inl (cI, 8, .inl v_sightWool))]) (lv := fun v => [(0, .ref h_this), (1, .int p0), (2, .int (v.2.2)), (3, .int (v.1))]) n0_4 ((10 : Int32), f_3, (0 : Int32)) hi0_4 hP hD hS (lv_sub hl [1, 2, 3, 0] rfl) ?_
    intro n_4 v_4 hi_4 ih_4 H locs hP hD hS ls hl
    obtain ⟨i_5, f_6, i_7⟩ := v_4
    replace vc := vc n_4 i_5 f_6 i_7 hi_4
    have hP : va_P D vwCl [(h_this, .inr (9, [.int v_present, .ref h_this_wool, .ref h_this_stitches, .ref h_this_place, .int v_chest, .int v_years, .ref h_this_sightSundays, .ref h_this_sightWool, .int v_sights, .ref h_this_pad, .int v_padMany, .ref h_this_act, .ref h_this_which, .ref h_this_much, .int v_acts, .int v_sweptMany, .ref h_this_had, .int v_badAct, .int v_badWhy, .int v_sweptAct, .int v_sweptWhich, .ref h_this_rows, .ref h_this_groups, .ref h_this_covers, .ref h_this_byWool, .ref h_this_wins, .ref h_this_kept, .ref h_this_isKept, .int v_keptAt, .int v_isWriting])), (h_this_byWool, .inl (cI, 100, .inl f_6)), (h_this_sightSundays, .inl (cI, 8, .inl v_sightSundays)), (h_this_sightWool, .inl (cI, 8, .inl v_sightWool))] H := hP
    have hD : va_D A [(h_this, .inr (9, [.int v_present, .ref h_this_wool, .ref h_this_stitches, .ref h_this_place, .int v_chest, .int v_years, .ref h_this_sightSundays, .ref h_this_sightWool, .int v_sights, .ref h_this_pad, .int v_padMany, .ref h_this_act, .ref h_this_which, .ref h_this_much, .int v_acts, .int v_sweptMany, .ref h_this_had, .int v_badAct, .int v_badWhy, .int v_sweptAct, .int v_sweptWhich, .ref h_this_rows, .ref h_this_groups, .ref h_this_covers, .ref h_this_byWool, .ref h_this_wins, .ref h_this_kept, .ref h_this_isKept, .int v_keptAt, .int v_isWriting])), (h_this_byWool, .inl (cI, 100, .inl f_6)), (h_this_sightSundays, .inl (cI, 8, .inl v_sightSundays)), (h_this_sightWool, .inl (cI, 8, .inl v_sightWool))] := hD
    have hl : lv_has ls 4 [(0, .ref h_this), (1, .int p0), (2, .int i_7), (3, .int i_5)] := hl
    refine lv_iload_n hx hb dX9_mostLeft_26 rfl (lv_at hl 3 rfl) ?_
    refine lv_bipush (v := (100 : Int32)) hx hb dX9_mostLeft_27 (by decide) ?_
    refine lv_icmp_ge (tgt := 89) hx hb dX9_mostLeft_29 (by decide) (fun c_ => ?_) (fun c_ => ?_)
    · replace vc := vc.1 c_
      refine lv_iload_n hx hb dX9_mostLeft_89 rfl (lv_at hl 2 rfl) ?_
      exact W.iret (v := i_7) hx hb hr (fun t ht hW => ⟨⟨i_7, (f_6), rfl, vc, QB_mk (hP.sub [0, 1, 2, 3] rfl) (hD.sub [0, 1, 2, 3] rfl rfl) ht⟩, hS.F ht⟩) hS.2.2 dX9_mostLeft_90
    · replace vc := vc.2 c_
      refine lv_aload_n hx hb dX9_mostLeft_32 rfl (lv_at hl 0 rfl) ?_
      refine lv_iload_n hx hb dX9_mostLeft_33 rfl (lv_at hl 3 rfl) ?_
      refine kj_i (wr := [(h_this_byWool, .inl (cI, 100, .inl f_6))]) (rest := []) (kV ⟨hx, hb, hml, hown, hts⟩ (kX9_isFit _ h_this h_this_wool h_this_stitches h_this_place h_this_sightSundays h_this_sightWool h_this_pad h_this_act h_this_which h_this_much h_this_had h_this_rows h_this_groups h_this_covers h_this_byWool h_this_wins h_this_kept h_this_isKept i_5 v_present v_chest v_years v_sights v_padMany v_acts v_sweptMany v_badAct v_badWhy v_sweptAct v_sweptWhich v_keptAt v_isWriting v_sightSundays v_sightWool vc.1) (cwV 1 hts gX9_mostLeft_X9_isFit rfl rfl rfl (by decide +kernel) ⟨(Nat.le_of_ble_eq_true rfl), (Nat.le_of_ble_eq_true rfl)⟩) hK hP hD [0, 2, 3] rfl rfl 0 9 rfl rfl rfl rfl rfl hl.1 (Nat.le_of_ble_eq_true rfl) dX9_mostLeft_34 ⟨(Nat.le_of_ble_eq_true rfl), (Nat.le_of_ble_eq_true rfl)⟩) hP hD hS hA [0, 2, 3] [1] rfl rfl rfl rfl (fun r_8 u_ H locs hq_ hP hD hS => ?_)
      replace vc := vc.2 r_8  hq_
      have hP : va_P D vwCl [(h_this_byWool, .inl (cI, 100, .inl f_6)), (h_this, .inr (9, [.int v_present, .ref h_this_wool, .ref h_this_stitches, .ref h_this_place, .int v_chest, .int v_years, .ref h_this_sightSundays, .ref h_this_sightWool, .int v_sights, .ref h_this_pad, .int v_padMany, .ref h_this_act, .ref h_this_which, .ref h_this_much, .int v_acts, .int v_sweptMany, .ref h_this_had, .int v_badAct, .int v_badWhy, .int v_sweptAct, .int v_sweptWhich, .ref h_this_rows, .ref h_this_groups, .ref h_this_covers, .ref h_this_byWool, .ref h_this_wins, .ref h_this_kept, .ref h_this_isKept, .int v_keptAt, .int v_isWriting])), (h_this_sightSundays, .inl (cI, 8, .inl v_sightSundays)), (h_this_sightWool, .inl (cI, 8, .inl v_sightWool))] H := hP
      have hD : va_D A [(h_this_byWool, .inl (cI, 100, .inl f_6)), (h_this, .inr (9, [.int v_present, .ref h_this_wool, .ref h_this_stitches, .ref h_this_place, .int v_chest, .int v_years, .ref h_this_sightSundays, .ref h_this_sightWool, .int v_sights, .ref h_this_pad, .int v_padMany, .ref h_this_act, .ref h_this_which, .ref h_this_much, .int v_acts, .int v_sweptMany, .ref h_this_had, .int v_badAct, .int v_badWhy, .int v_sweptAct, .int v_sweptWhich, .ref h_this_rows, .ref h_this_groups, .ref h_this_covers, .ref h_this_byWool, .ref h_this_wins, .ref h_this_kept, .ref h_this_isKept, .int v_keptAt, .int v_isWriting])), (h_this_sightSundays, .inl (cI, 8, .inl v_sightSundays)), (h_this_sightWool, .inl (cI, 8, .inl v_sightWool))] := hD
      refine lv_if_eq (tgt := 83) hx hb dX9_mostLeft_37 (by decide) (fun c_ => ?_) (fun c_ => ?_)
      · replace vc := vc.1 c_
        obtain ⟨x_9, ex_9⟩ : ∃ y_ : Int32, y_ = (i_5 + (1 : Int32)) := ⟨_, rfl⟩
        replace vc := vc x_9 ex_9
        refine lv_iinc (v := x_9) (lv' := [(3, .int x_9), (0, .ref h_this), (1, .int p0), (2, .int i_7)]) hx hb dX9_mostLeft_83 hl (k := 3) rfl (by rw [ex_9]; rfl) (by decide) rfl (fun ls hl => ?_)
        refine lv_goto (tgt := 26) hx hb dX9_mostLeft_86 (by decide) ?_
        obtain ⟨n1_, hlt_, hi_⟩ := vc
        exact ih_4 n1_ (x_9, f_6, i_7) hlt_ hi_ _ _ (hP.sub [1, 0, 2, 3] rfl) (hD.sub [1, 0, 2, 3] rfl rfl) hS ls (lv_sub hl [1, 2, 3, 0] rfl)
      · replace vc := vc.2 c_
        refine lv_aload_n hx hb dX9_mostLeft_40 rfl (lv_at hl 0 rfl) ?_
        refine va_get (D := D) (ci := 9) (v := .ref h_this_byWool) (C := RX9) (T := TX9) (N := 30) hx hb hts mcX9_mostLeft_X9 hown hK.1 hP 1 rfl rfl 24 (by decide) (hts _ mwX9_mostLeft_1) (fun _ h9 => h9) rfl dX9_mostLeft_41 ?_
        refine lv_iload_n hx hb dX9_mostLeft_44 rfl (lv_at hl 3 rfl) ?_
        refine lv_iload_n hx hb dX9_mostLeft_45 rfl (lv_at hl 1 rfl) ?_
        refine kj0_i (rest := [.ref h_this_byWool]) (kS ⟨hx, hb, hml, hown, hts⟩ (kX9_woolBy _ i_5 p0 vc.1) (va_cwS 2 hts gX9_mostLeft_X9_woolBy rfl rfl rfl (by decide +kernel) ⟨(Nat.le_of_ble_eq_true rfl), (Nat.le_of_ble_eq_true rfl)⟩) hK rfl rfl hl.1 (Nat.le_of_ble_eq_true rfl) dX9_mostLeft_46 ⟨(Nat.le_of_ble_eq_true rfl), (Nat.le_of_ble_eq_true rfl)⟩) hP hS hA (fun r_10 H locs hq_ hP hS => ?_)
        replace vc := vc.2 r_10 hq_
        have hP : va_P D vwCl [(h_this_byWool, .inl (cI, 100, .inl f_6)), (h_this, .inr (9, [.int v_present, .ref h_this_wool, .ref h_this_stitches, .ref h_this_place, .int v_chest, .int v_years, .ref h_this_sightSundays, .ref h_this_sightWool, .int v_sights, .ref h_this_pad, .int v_padMany, .ref h_this_act, .ref h_this_which, .ref h_this_much, .int v_acts, .int v_sweptMany, .ref h_this_had, .int v_badAct, .int v_badWhy, .int v_sweptAct, .int v_sweptWhich, .ref h_this_rows, .ref h_this_groups, .ref h_this_covers, .ref h_this_byWool, .ref h_this_wins, .ref h_this_kept, .ref h_this_isKept, .int v_keptAt, .int v_isWriting])), (h_this_sightSundays, .inl (cI, 8, .inl v_sightSundays)), (h_this_sightWool, .inl (cI, 8, .inl v_sightWool))] H := hP
        refine lv_dup2_11 hx hb dX9_mostLeft_49 rfl rfl ?_
        have hi_11 := vc.1
        replace vc := vc.2
        refine va_iald hx hb hK.1 hP 0 0 rfl rfl hi_11 dX9_mostLeft_50 ?_
        refine lv_iconst (v := (1 : Int32)) hx hb dX9_mostLeft_51 (by decide) ?_
        refine lv_iadd hx hb dX9_mostLeft_52 ?_
        refine lv_topi (fun x_12 ex_12 => ?_)
        replace vc := vc x_12 ex_12
        have hi_13 := vc.1
        replace vc := vc.2
        refine va_iast hx hb hK.1 hP hD hS 0 0 rfl rfl hi_13 dX9_mostLeft_53 (fun H locs hP hD hS => ?_)
        have hP : va_P D vwCl [(h_this_byWool, .inl (cI, 100, .inl (upd f_6 (r_10).toNatClampNeg x_12))), (h_this, .inr (9, [.int v_present, .ref h_this_wool, .ref h_this_stitches, .ref h_this_place, .int v_chest, .int v_years, .ref h_this_sightSundays, .ref h_this_sightWool, .int v_sights, .ref h_this_pad, .int v_padMany, .ref h_this_act, .ref h_this_which, .ref h_this_much, .int v_acts, .int v_sweptMany, .ref h_this_had, .int v_badAct, .int v_badWhy, .int v_sweptAct, .int v_sweptWhich, .ref h_this_rows, .ref h_this_groups, .ref h_this_covers, .ref h_this_byWool, .ref h_this_wins, .ref h_this_kept, .ref h_this_isKept, .int v_keptAt, .int v_isWriting])), (h_this_sightSundays, .inl (cI, 8, .inl v_sightSundays)), (h_this_sightWool, .inl (cI, 8, .inl v_sightWool))] H := hP
        have hD : va_D A [(h_this_byWool, .inl (cI, 100, .inl (upd f_6 (r_10).toNatClampNeg x_12))), (h_this, .inr (9, [.int v_present, .ref h_this_wool, .ref h_this_stitches, .ref h_this_place, .int v_chest, .int v_years, .ref h_this_sightSundays, .ref h_this_sightWool, .int v_sights, .ref h_this_pad, .int v_padMany, .ref h_this_act, .ref h_this_which, .ref h_this_much, .int v_acts, .int v_sweptMany, .ref h_this_had, .int v_badAct, .int v_badWhy, .int v_sweptAct, .int v_sweptWhich, .ref h_this_rows, .ref h_this_groups, .ref h_this_covers, .ref h_this_byWool, .ref h_this_wins, .ref h_this_kept, .ref h_this_isKept, .int v_keptAt, .int v_isWriting])), (h_this_sightSundays, .inl (cI, 8, .inl v_sightSundays)), (h_this_sightWool, .inl (cI, 8, .inl v_sightWool))] := hD
        refine lv_aload_n hx hb dX9_mostLeft_54 rfl (lv_at hl 0 rfl) ?_
        refine va_get (D := D) (ci := 9) (v := .ref h_this_byWool) (C := RX9) (T := TX9) (N := 30) hx hb hts mcX9_mostLeft_X9 hown hK.1 hP 1 rfl rfl 24 (by decide) (hts _ mwX9_mostLeft_1) (fun _ h9 => h9) rfl dX9_mostLeft_55 ?_
        refine lv_iload_n hx hb dX9_mostLeft_58 rfl (lv_at hl 3 rfl) ?_
        refine lv_iload_n hx hb dX9_mostLeft_59 rfl (lv_at hl 1 rfl) ?_
        refine kj0_i (rest := [.ref h_this_byWool]) (kS ⟨hx, hb, hml, hown, hts⟩ (kX9_woolBy _ i_5 p0 vc.1) (va_cwS 2 hts gX9_mostLeft_X9_woolBy rfl rfl rfl (by decide +kernel) ⟨(Nat.le_of_ble_eq_true rfl), (Nat.le_of_ble_eq_true rfl)⟩) hK rfl rfl hl.1 (Nat.le_of_ble_eq_true rfl) dX9_mostLeft_60 ⟨(Nat.le_of_ble_eq_true rfl), (Nat.le_of_ble_eq_true rfl)⟩) hP hS hA (fun r_14 H locs hq_ hP hS => ?_)
        replace vc := vc.2 r_14 hq_
        have hP : va_P D vwCl [(h_this_byWool, .inl (cI, 100, .inl (upd f_6 (r_10).toNatClampNeg x_12))), (h_this, .inr (9, [.int v_present, .ref h_this_wool, .ref h_this_stitches, .ref h_this_place, .int v_chest, .int v_years, .ref h_this_sightSundays, .ref h_this_sightWool, .int v_sights, .ref h_this_pad, .int v_padMany, .ref h_this_act, .ref h_this_which, .ref h_this_much, .int v_acts, .int v_sweptMany, .ref h_this_had, .int v_badAct, .int v_badWhy, .int v_sweptAct, .int v_sweptWhich, .ref h_this_rows, .ref h_this_groups, .ref h_this_covers, .ref h_this_byWool, .ref h_this_wins, .ref h_this_kept, .ref h_this_isKept, .int v_keptAt, .int v_isWriting])), (h_this_sightSundays, .inl (cI, 8, .inl v_sightSundays)), (h_this_sightWool, .inl (cI, 8, .inl v_sightWool))] H := hP
        have hi_15 := vc.1
        replace vc := vc.2
        refine va_iald hx hb hK.1 hP 0 0 rfl rfl hi_15 dX9_mostLeft_63 ?_
        refine lv_iload_n hx hb dX9_mostLeft_64 rfl (lv_at hl 2 rfl) ?_
        refine lv_icmp_le (tgt := 81) hx hb dX9_mostLeft_65 (by decide) (fun c_ => ?_) (fun c_ => ?_)
        · replace vc := vc.1 c_
          refine lv_iload_n hx hb dX9_mostLeft_81 rfl (lv_at hl 2 rfl) ?_
          refine lv_istore_n (lv' := [(2, .int i_7), (0, .ref h_this), (1, .int p0), (3, .int i_5)]) hx hb dX9_mostLeft_82 rfl hl (by decide) rfl (fun ls hl => ?_)
          obtain ⟨x_16, ex_16⟩ : ∃ y_ : Int32, y_ = (i_5 + (1 : Int32)) := ⟨_, rfl⟩
          replace vc := vc x_16 ex_16
          refine lv_iinc (v := x_16) (lv' := [(3, .int x_16), (2, .int i_7), (0, .ref h_this), (1, .int p0)]) hx hb dX9_mostLeft_83 hl (k := 3) rfl (by rw [ex_16]; rfl) (by decide) rfl (fun ls hl => ?_)
          refine lv_goto (tgt := 26) hx hb dX9_mostLeft_86 (by decide) ?_
          obtain ⟨n1_, hlt_, hi_⟩ := vc
          exact ih_4 n1_ (x_16, (upd f_6 (r_10).toNatClampNeg x_12), i_7) hlt_ hi_ _ _ (hP.sub [1, 0, 2, 3] rfl) (hD.sub [1, 0, 2, 3] rfl rfl) hS ls (lv_sub hl [2, 3, 1, 0] rfl)
        · replace vc := vc.2 c_
          refine lv_aload_n hx hb dX9_mostLeft_68 rfl (lv_at hl 0 rfl) ?_
          refine va_get (D := D) (ci := 9) (v := .ref h_this_byWool) (C := RX9) (T := TX9) (N := 30) hx hb hts mcX9_mostLeft_X9 hown hK.1 hP 1 rfl rfl 24 (by decide) (hts _ mwX9_mostLeft_1) (fun _ h9 => h9) rfl dX9_mostLeft_69 ?_
          refine lv_iload_n hx hb dX9_mostLeft_72 rfl (lv_at hl 3 rfl) ?_
          refine lv_iload_n hx hb dX9_mostLeft_73 rfl (lv_at hl 1 rfl) ?_
          refine kj0_i (rest := [.ref h_this_byWool]) (kS ⟨hx, hb, hml, hown, hts⟩ (kX9_woolBy _ i_5 p0 vc.1) (va_cwS 2 hts gX9_mostLeft_X9_woolBy rfl rfl rfl (by decide +kernel) ⟨(Nat.le_of_ble_eq_true rfl), (Nat.le_of_ble_eq_true rfl)⟩) hK rfl rfl hl.1 (Nat.le_of_ble_eq_true rfl) dX9_mostLeft_74 ⟨(Nat.le_of_ble_eq_true rfl), (Nat.le_of_ble_eq_true rfl)⟩) hP hS hA (fun r_17 H locs hq_ hP hS => ?_)
          replace vc := vc.2 r_17 hq_
          have hP : va_P D vwCl [(h_this_byWool, .inl (cI, 100, .inl (upd f_6 (r_10).toNatClampNeg x_12))), (h_this, .inr (9, [.int v_present, .ref h_this_wool, .ref h_this_stitches, .ref h_this_place, .int v_chest, .int v_years, .ref h_this_sightSundays, .ref h_this_sightWool, .int v_sights, .ref h_this_pad, .int v_padMany, .ref h_this_act, .ref h_this_which, .ref h_this_much, .int v_acts, .int v_sweptMany, .ref h_this_had, .int v_badAct, .int v_badWhy, .int v_sweptAct, .int v_sweptWhich, .ref h_this_rows, .ref h_this_groups, .ref h_this_covers, .ref h_this_byWool, .ref h_this_wins, .ref h_this_kept, .ref h_this_isKept, .int v_keptAt, .int v_isWriting])), (h_this_sightSundays, .inl (cI, 8, .inl v_sightSundays)), (h_this_sightWool, .inl (cI, 8, .inl v_sightWool))] H := hP
          have hi_18 := vc.1
          replace vc := vc.2
          refine va_iald hx hb hK.1 hP 0 0 rfl rfl hi_18 dX9_mostLeft_77 ?_
          refine lv_goto (tgt := 82) hx hb dX9_mostLeft_78 (by decide) ?_
          refine lv_topi (fun x_19 ex_19 => ?_)
          replace vc := vc x_19 ex_19
          refine lv_istore_n (lv' := [(2, .int x_19), (0, .ref h_this), (1, .int p0), (3, .int i_5)]) hx hb dX9_mostLeft_82 rfl hl (by decide) rfl (fun ls hl => ?_)
          obtain ⟨x_20, ex_20⟩ : ∃ y_ : Int32, y_ = (i_5 + (1 : Int32)) := ⟨_, rfl⟩
          replace vc := vc x_20 ex_20
          refine lv_iinc (v := x_20) (lv' := [(3, .int x_20), (2, .int x_19), (0, .ref h_this), (1, .int p0)]) hx hb dX9_mostLeft_83 hl (k := 3) rfl (by rw [ex_20]; rfl) (by decide) rfl (fun ls hl => ?_)
          refine lv_goto (tgt := 26) hx hb dX9_mostLeft_86 (by decide) ?_
          obtain ⟨n1_, hlt_, hi_⟩ := vc
          exact ih_4 n1_ (x_20, (upd f_6 (r_10).toNatClampNeg x_12), x_19) hlt_ hi_ _ _ (hP.sub [1, 0, 2, 3] rfl) (hD.sub [1, 0, 2, 3] rfl rfl) hS ls (lv_sub hl [2, 3, 1, 0] rfl)
  · replace vc := vc.2 c_
    refine lv_aload_n hx hb dX9_mostLeft_10 rfl (lv_at hl 0 rfl) ?_
    refine va_get (D := D) (ci := 9) (v := .ref h_this_byWool) (C := RX9) (T := TX9) (N := 30) hx hb hts mcX9_mostLeft_X9 hown hK.1 hP 0 rfl rfl 24 (by decide) (hts _ mwX9_mostLeft_1) (fun _ h9 => h9) rfl dX9_mostLeft_11 ?_
    refine lv_iload_n hx hb dX9_mostLeft_14 rfl (lv_at hl 3 rfl) ?_
    refine lv_iconst (v := (0 : Int32)) hx hb dX9_mostLeft_15 (by decide) ?_
    have hi_21 := vc.1
    replace vc := vc.2
    refine va_iast hx hb hK.1 hP hD hS 1 0 rfl rfl hi_21 dX9_mostLeft_16 (fun H locs hP hD hS => ?_)
    have hP : va_P D vwCl [(h_this, .inr (9, [.int v_present, .ref h_this_wool, .ref h_this_stitches, .ref h_this_place, .int v_chest, .int v_years, .ref h_this_sightSundays, .ref h_this_sightWool, .int v_sights, .ref h_this_pad, .int v_padMany, .ref h_this_act, .ref h_this_which, .ref h_this_much, .int v_acts, .int v_sweptMany, .ref h_this_had, .int v_badAct, .int v_badWhy, .int v_sweptAct, .int v_sweptWhich, .ref h_this_rows, .ref h_this_groups, .ref h_this_covers, .ref h_this_byWool, .ref h_this_wins, .ref h_this_kept, .ref h_this_isKept, .int v_keptAt, .int v_isWriting])), (h_this_byWool, .inl (cI, 100, .inl (upd f_3 (i_2).toNatClampNeg (0 : Int32)))), (h_this_sightSundays, .inl (cI, 8, .inl v_sightSundays)), (h_this_sightWool, .inl (cI, 8, .inl v_sightWool))] H := hP
    have hD : va_D A [(h_this, .inr (9, [.int v_present, .ref h_this_wool, .ref h_this_stitches, .ref h_this_place, .int v_chest, .int v_years, .ref h_this_sightSundays, .ref h_this_sightWool, .int v_sights, .ref h_this_pad, .int v_padMany, .ref h_this_act, .ref h_this_which, .ref h_this_much, .int v_acts, .int v_sweptMany, .ref h_this_had, .int v_badAct, .int v_badWhy, .int v_sweptAct, .int v_sweptWhich, .ref h_this_rows, .ref h_this_groups, .ref h_this_covers, .ref h_this_byWool, .ref h_this_wins, .ref h_this_kept, .ref h_this_isKept, .int v_keptAt, .int v_isWriting])), (h_this_byWool, .inl (cI, 100, .inl (upd f_3 (i_2).toNatClampNeg (0 : Int32)))), (h_this_sightSundays, .inl (cI, 8, .inl v_sightSundays)), (h_this_sightWool, .inl (cI, 8, .inl v_sightWool))] := hD
    obtain ⟨x_22, ex_22⟩ : ∃ y_ : Int32, y_ = (i_2 + (1 : Int32)) := ⟨_, rfl⟩
    replace vc := vc x_22 ex_22
    refine lv_iinc (v := x_22) (lv' := [(3, .int x_22), (0, .ref h_this), (1, .int p0), (2, .int (0 : Int32))]) hx hb dX9_mostLeft_17 hl (k := 3) rfl (by rw [ex_22]; rfl) (by decide) rfl (fun ls hl => ?_)
    refine lv_goto (tgt := 4) hx hb dX9_mostLeft_20 (by decide) ?_
    obtain ⟨n1_, hlt_, hi_⟩ := vc
    exact ih_1 n1_ (x_22, (upd f_3 (i_2).toNatClampNeg (0 : Int32))) hlt_ hi_ _ _ hP hD hS ls (lv_sub hl [1, 2, 3, 0] rfl)

def KX9_ask (l : Launch) (D : va_G) (cI cZ : ClassId) (P : Int32 → Int32 → (Nat → Int32) → (Nat → Int32) → (Nat → Int32) → Prop) (Q : Int32 → Int32 → (Nat → Int32) → (Nat → Int32) → (Nat → Int32) → Int32 → (Nat → Int32) → Prop) : Prop := ∀ (sz : Nat) (h_this h_this_wool h_this_stitches h_this_place h_this_sightSundays h_this_sightWool h_this_pad h_this_act h_this_which h_this_much h_this_had h_this_rows h_this_groups h_this_covers h_this_byWool h_this_wins h_this_kept h_this_isKept : Nat) (p0 : Int32) (v_present : Int32) (v_chest : Int32) (v_years : Int32) (v_sights : Int32) (v_padMany : Int32) (v_acts : Int32) (v_sweptMany : Int32) (v_badAct : Int32) (v_badWhy : Int32) (v_sweptAct : Int32) (v_sweptWhich : Int32) (v_keptAt : Int32) (v_isWriting : Int32) (v_byWool : (Nat → Int32)) (v_sightSundays : (Nat → Int32)) (v_sightWool : (Nat → Int32)), P p0 v_sights v_byWool v_sightSundays v_sightWool → MI l yX9_ask wsX9_ask ({ frames := 3, cells := 0, slots := 0, locals := 68 }) [.ref h_this, .int p0] D cI cZ sz [(h_this, .inr (9, [.int v_present, .ref h_this_wool, .ref h_this_stitches, .ref h_this_place, .int v_chest, .int v_years, .ref h_this_sightSundays, .ref h_this_sightWool, .int v_sights, .ref h_this_pad, .int v_padMany, .ref h_this_act, .ref h_this_which, .ref h_this_much, .int v_acts, .int v_sweptMany, .ref h_this_had, .int v_badAct, .int v_badWhy, .int v_sweptAct, .int v_sweptWhich, .ref h_this_rows, .ref h_this_groups, .ref h_this_covers, .ref h_this_byWool, .ref h_this_wins, .ref h_this_kept, .ref h_this_isKept, .int v_keptAt, .int v_isWriting])), (h_this_byWool, .inl (cI, 100, .inl v_byWool)), (h_this_sightSundays, .inl (cI, 8, .inl v_sightSundays)), (h_this_sightWool, .inl (cI, 8, .inl v_sightWool))] (fun r (u : (Nat → Int32)) => Q p0 v_sights v_byWool v_sightSundays v_sightWool r u) (fun u => [(h_this, .inr (9, [.int v_present, .ref h_this_wool, .ref h_this_stitches, .ref h_this_place, .int v_chest, .int v_years, .ref h_this_sightSundays, .ref h_this_sightWool, .int v_sights, .ref h_this_pad, .int v_padMany, .ref h_this_act, .ref h_this_which, .ref h_this_much, .int v_acts, .int v_sweptMany, .ref h_this_had, .int v_badAct, .int v_badWhy, .int v_sweptAct, .int v_sweptWhich, .ref h_this_rows, .ref h_this_groups, .ref h_this_covers, .ref h_this_byWool, .ref h_this_wins, .ref h_this_kept, .ref h_this_isKept, .int v_keptAt, .int v_isWriting])), (h_this_byWool, .inl (cI, 100, .inl u)), (h_this_sightSundays, .inl (cI, 8, .inl v_sightSundays)), (h_this_sightWool, .inl (cI, 8, .inl v_sightWool))]) 0 0
set_option maxHeartbeats 4000000 in
set_option maxRecDepth 100000 in
theorem walkX9_ask {l : Launch} {D : va_G} {cI cZ : ClassId} {PX9_ask : Int32 → Int32 → (Nat → Int32) → (Nat → Int32) → (Nat → Int32) → Prop} {QX9_ask : Int32 → Int32 → (Nat → Int32) → (Nat → Int32) → (Nat → Int32) → Int32 → (Nat → Int32) → Prop} {PX9_in : Int64 → Int64 → Int64 → Prop} {QX9_in : Int64 → Int64 → Int64 → Int32 → Prop} {PX9_mostLeft : Int32 → Int32 → (Nat → Int32) → (Nat → Int32) → (Nat → Int32) → Prop} {QX9_mostLeft : Int32 → Int32 → (Nat → Int32) → (Nat → Int32) → (Nat → Int32) → Int32 → (Nat → Int32) → Prop} {PX9_less : Int32 → Int32 → Prop} {QX9_less : Int32 → Int32 → Int32 → Prop} (kX9_in : KX9_in l D cI cZ PX9_in QX9_in) (kX9_mostLeft : KX9_mostLeft l D cI cZ PX9_mostLeft QX9_mostLeft) (kX9_less : KX9_less l D cI cZ PX9_less QX9_less) (IX9_ask_24 : Int32 → Int32 → (Nat → Int32) → (Nat → Int32) → (Nat → Int32) → Nat → Int32 → Int32 → Int32 → Int32 → (Nat → Int32) → Prop) (hvc : ∀ (p0 : Int32) (v_sights : Int32) (v_byWool : (Nat → Int32)) (v_sightSundays : (Nat → Int32)) (v_sightWool : (Nat → Int32)), PX9_ask p0 v_sights v_byWool v_sightSundays v_sightWool → (PX9_in (p0.toInt64) (0 : Int64) (1 : Int64) ∧ (∀ r_1 : Int32, QX9_in (p0.toInt64) (0 : Int64) (1 : Int64) r_1 → ((¬ r_1 = 0 → (PX9_mostLeft (0 : Int32) v_sights v_byWool v_sightSundays v_sightWool ∧ (∀ (r_3 : Int32) (f_2 : (Nat → Int32)), QX9_mostLeft (0 : Int32) v_sights v_byWool v_sightSundays v_sightWool r_3 f_2 → ((∃ n0 : Nat, IX9_ask_24 p0 v_sights v_byWool v_sightSundays v_sightWool n0 p0 (0 : Int32) r_3 (1 : Int32) f_2) ∧ (∀ (n_4 : Nat) (i_5 : Int32) (i_6 : Int32) (f_7 : (Nat → Int32)) (i_8 : Int32), (IX9_ask_24 p0 v_sights v_byWool v_sightSundays v_sightWool n_4 p0 i_8 i_5 i_6 f_7 → (((60 : Int32) < i_6 → ((¬ i_5 = 0 → ((¬ p0 = 0 → (QX9_ask p0 v_sights v_byWool v_sightSundays v_sightWool i_5 f_7)) ∧ (p0 = 0 → (QX9_ask p0 v_sights v_byWool v_sightSundays v_sightWool i_8 f_7)))) ∧ (i_5 = 0 → (QX9_ask p0 v_sights v_byWool v_sightSundays v_sightWool (-6 : Int32) f_7)))) ∧ (¬ (60 : Int32) < i_6 → (PX9_mostLeft i_6 v_sights f_7 v_sightSundays v_sightWool ∧ (∀ (r_10 : Int32) (f_9 : (Nat → Int32)), QX9_mostLeft i_6 v_sights f_7 v_sightSundays v_sightWool r_10 f_9 → ((i_5 ≤ r_10 → (PX9_less i_5 r_10 ∧ (∀ r_11 : Int32, QX9_less i_5 r_10 r_11 → (∀ x_12 : Int32, x_12 = (i_6 + (1 : Int32)) → (∃ n1 : Nat, n1 < n_4 ∧ IX9_ask_24 p0 v_sights v_byWool v_sightSundays v_sightWool n1 p0 i_8 r_11 x_12 f_9))))) ∧ (¬ i_5 ≤ r_10 → (PX9_less i_5 r_10 ∧ (∀ r_13 : Int32, QX9_less i_5 r_10 r_13 → (∀ x_14 : Int32, x_14 = (i_6 + (1 : Int32)) → (∃ n1 : Nat, n1 < n_4 ∧ IX9_ask_24 p0 v_sights v_byWool v_sightSundays v_sightWool n1 p0 i_6 r_13 x_14 f_9)))))))))))))))) ∧ (r_1 = 0 → (QX9_ask p0 v_sights v_byWool v_sightSundays v_sightWool (-2 : Int32) v_byWool)))))) : KX9_ask l D cI cZ PX9_ask QX9_ask := by
  intro sz h_this h_this_wool h_this_stitches h_this_place h_this_sightSundays h_this_sightWool h_this_pad h_this_act h_this_which h_this_much h_this_had h_this_rows h_this_groups h_this_covers h_this_byWool h_this_wins h_this_kept h_this_isKept p0 v_present v_chest v_years v_sights v_padMany v_acts v_sweptMany v_badAct v_badWhy v_sweptAct v_sweptWhich v_keptAt v_isWriting v_byWool v_sightSundays v_sightWool hpre
  have vc := hvc p0 v_sights v_byWool v_sightSundays v_sightWool hpre
  clear hvc
  refine Met.ofW (cc := cX9_ask) (maxL := 6) (ret := (some .int)) (by decide) rfl ?_
  intro p e s m args below meth c s₁ B hml hv
  obtain ⟨rfl, hsz, hP, hK, hD0⟩ := hv
  have hx := B.exec
  have hb := B.bytes
  have hr := B.returns
  have hts := atoms_spec (ws := wsX9_ask) B.pre
  have hown : s.vm.findClass RX9 = some m.cls := findClass_of_methodNamed B.named
  have hlocks := B.notSynchronized
  subst hsz
  have hD := hD0.self (sz := s.heap.size)
  generalize hAe : va_A [(h_this, .inr (9, [.int v_present, .ref h_this_wool, .ref h_this_stitches, .ref h_this_place, .int v_chest, .int v_years, .ref h_this_sightSundays, .ref h_this_sightWool, .int v_sights, .ref h_this_pad, .int v_padMany, .ref h_this_act, .ref h_this_which, .ref h_this_much, .int v_acts, .int v_sweptMany, .ref h_this_had, .int v_badAct, .int v_badWhy, .int v_sweptAct, .int v_sweptWhich, .ref h_this_rows, .ref h_this_groups, .ref h_this_covers, .ref h_this_byWool, .ref h_this_wins, .ref h_this_kept, .ref h_this_isKept, .int v_keptAt, .int v_isWriting])), (h_this_byWool, .inl (cI, 100, .inl v_byWool)), (h_this_sightSundays, .inl (cI, 8, .inl v_sightSundays)), (h_this_sightWool, .inl (cI, 8, .inl v_sightWool))] s.heap.size = A at hD ⊢
  have hA : ∀ q : Nat, s.heap.size ≤ q → A q := fun q h => by rw [← hAe]; exact Or.inr h
  have hS : va_S A s.heap s.heap [] := va_S.rf
  have hP : va_P D vwCl [(h_this, .inr (9, [.int v_present, .ref h_this_wool, .ref h_this_stitches, .ref h_this_place, .int v_chest, .int v_years, .ref h_this_sightSundays, .ref h_this_sightWool, .int v_sights, .ref h_this_pad, .int v_padMany, .ref h_this_act, .ref h_this_which, .ref h_this_much, .int v_acts, .int v_sweptMany, .ref h_this_had, .int v_badAct, .int v_badWhy, .int v_sweptAct, .int v_sweptWhich, .ref h_this_rows, .ref h_this_groups, .ref h_this_covers, .ref h_this_byWool, .ref h_this_wins, .ref h_this_kept, .ref h_this_isKept, .int v_keptAt, .int v_isWriting])), (h_this_byWool, .inl (cI, 100, .inl v_byWool)), (h_this_sightSundays, .inl (cI, 8, .inl v_sightSundays)), (h_this_sightWool, .inl (cI, 8, .inl v_sightWool))] s.heap := hP
  have hl := lv_entry ([.ref h_this, .int p0]) (n := 6) (Nat.le_of_ble_eq_true rfl)
  rw [lg_entry_eq]
  generalize (lg_sl ([.ref h_this, .int p0]) ++ List.replicate (6 - (lg_sl ([.ref h_this, .int p0])).length) Slot.unset).toArray = ls at hl ⊢
  have hl : lv_has ls 6 [(0, .ref h_this), (1, .int p0)] := hl
  refine lv_iload_n hx hb dX9_ask_0 rfl (lv_at hl 1 rfl) ?_
  refine lv_i2l hx hb dX9_ask_1 rfl ?_
  refine lv_lconst (v := (0 : Int64)) hx hb dX9_ask_2 (by decide) ?_
  refine lv_lconst (v := (1 : Int64)) hx hb dX9_ask_3 (by decide) ?_
  refine kj0_i (rest := []) (kS ⟨hx, hb, hml, hown, hts⟩ (kX9_in _ (p0.toInt64) (0 : Int64) (1 : Int64) vc.1) (va_cwS 3 hts gX9_ask_X9_in rfl rfl rfl (by decide +kernel) ⟨(Nat.le_of_ble_eq_true rfl), (Nat.le_of_ble_eq_true rfl)⟩) hK rfl rfl hl.1 (Nat.le_of_ble_eq_true rfl) dX9_ask_4 ⟨(Nat.le_of_ble_eq_true rfl), (Nat.le_of_ble_eq_true rfl)⟩) hP hS hA (fun r_1 H locs hq_ hP hS => ?_)
  replace vc := vc.2 r_1 hq_
  have hP : va_P D vwCl [(h_this, .inr (9, [.int v_present, .ref h_this_wool, .ref h_this_stitches, .ref h_this_place, .int v_chest, .int v_years, .ref h_this_sightSundays, .ref h_this_sightWool, .int v_sights, .ref h_this_pad, .int v_padMany, .ref h_this_act, .ref h_this_which, .ref h_this_much, .int v_acts, .int v_sweptMany, .ref h_this_had, .int v_badAct, .int v_badWhy, .int v_sweptAct, .int v_sweptWhich, .ref h_this_rows, .ref h_this_groups, .ref h_this_covers, .ref h_this_byWool, .ref h_this_wins, .ref h_this_kept, .ref h_this_isKept, .int v_keptAt, .int v_isWriting])), (h_this_byWool, .inl (cI, 100, .inl v_byWool)), (h_this_sightSundays, .inl (cI, 8, .inl v_sightSundays)), (h_this_sightWool, .inl (cI, 8, .inl v_sightWool))] H := hP
  refine lv_if_ne (tgt := 13) hx hb dX9_ask_7 (by decide) (fun c_ => ?_) (fun c_ => ?_)
  · replace vc := vc.1 c_
    refine lv_iconst (v := (0 : Int32)) hx hb dX9_ask_13 (by decide) ?_
    refine lv_istore_n (lv' := [(2, .int (0 : Int32)), (0, .ref h_this), (1, .int p0)]) hx hb dX9_ask_14 rfl hl (by decide) rfl (fun ls hl => ?_)
    refine lv_aload_n hx hb dX9_ask_15 rfl (lv_at hl 1 rfl) ?_
    refine lv_iconst (v := (0 : Int32)) hx hb dX9_ask_16 (by decide) ?_
    refine kj_i (wr := []) (rest := []) (kV ⟨hx, hb, hml, hown, hts⟩ (kX9_mostLeft _ h_this h_this_wool h_this_stitches h_this_place h_this_sightSundays h_this_sightWool h_this_pad h_this_act h_this_which h_this_much h_this_had h_this_rows h_this_groups h_this_covers h_this_byWool h_this_wins h_this_kept h_this_isKept (0 : Int32) v_present v_chest v_years v_sights v_padMany v_acts v_sweptMany v_badAct v_badWhy v_sweptAct v_sweptWhich v_keptAt v_isWriting v_byWool v_sightSundays v_sightWool vc.1) (cwV 1 hts gX9_ask_X9_mostLeft rfl rfl rfl (by decide +kernel) ⟨(Nat.le_of_ble_eq_true rfl), (Nat.le_of_ble_eq_true rfl)⟩) hK hP hD [0, 1, 2, 3] rfl rfl 0 9 rfl rfl rfl rfl rfl hl.1 (Nat.le_of_ble_eq_true rfl) dX9_ask_17 ⟨(Nat.le_of_ble_eq_true rfl), (Nat.le_of_ble_eq_true rfl)⟩) hP hD hS hA [0, 1, 2, 3] [] rfl rfl rfl rfl (fun r_3 u_ H locs hq_ hP hD hS => ?_)
    obtain ⟨f_2, rfl⟩ : ∃ z, z = u_ := ⟨_, rfl⟩
    replace vc := vc.2 r_3 f_2 hq_
    have hP : va_P D vwCl [(h_this, .inr (9, [.int v_present, .ref h_this_wool, .ref h_this_stitches, .ref h_this_place, .int v_chest, .int v_years, .ref h_this_sightSundays, .ref h_this_sightWool, .int v_sights, .ref h_this_pad, .int v_padMany, .ref h_this_act, .ref h_this_which, .ref h_this_much, .int v_acts, .int v_sweptMany, .ref h_this_had, .int v_badAct, .int v_badWhy, .int v_sweptAct, .int v_sweptWhich, .ref h_this_rows, .ref h_this_groups, .ref h_this_covers, .ref h_this_byWool, .ref h_this_wins, .ref h_this_kept, .ref h_this_isKept, .int v_keptAt, .int v_isWriting])), (h_this_byWool, .inl (cI, 100, .inl f_2)), (h_this_sightSundays, .inl (cI, 8, .inl v_sightSundays)), (h_this_sightWool, .inl (cI, 8, .inl v_sightWool))] H := hP
    have hD : va_D A [(h_this, .inr (9, [.int v_present, .ref h_this_wool, .ref h_this_stitches, .ref h_this_place, .int v_chest, .int v_years, .ref h_this_sightSundays, .ref h_this_sightWool, .int v_sights, .ref h_this_pad, .int v_padMany, .ref h_this_act, .ref h_this_which, .ref h_this_much, .int v_acts, .int v_sweptMany, .ref h_this_had, .int v_badAct, .int v_badWhy, .int v_sweptAct, .int v_sweptWhich, .ref h_this_rows, .ref h_this_groups, .ref h_this_covers, .ref h_this_byWool, .ref h_this_wins, .ref h_this_kept, .ref h_this_isKept, .int v_keptAt, .int v_isWriting])), (h_this_byWool, .inl (cI, 100, .inl f_2)), (h_this_sightSundays, .inl (cI, 8, .inl v_sightSundays)), (h_this_sightWool, .inl (cI, 8, .inl v_sightWool))] := hD
    refine lv_istore_n (lv' := [(3, .int r_3), (2, .int (0 : Int32)), (0, .ref h_this), (1, .int p0)]) hx hb dX9_ask_20 rfl hl (by decide) rfl (fun ls hl => ?_)
    refine lv_iconst (v := (1 : Int32)) hx hb dX9_ask_21 (by decide) ?_
    refine lv_istore (lv' := [(4, .int (1 : Int32)), (3, .int r_3), (2, .int (0 : Int32)), (0, .ref h_this), (1, .int p0)]) hx hb dX9_ask_22 hl (by decide) rfl (fun ls hl => ?_)
    obtain ⟨⟨n0_4, hi0_4⟩, vc⟩ := vc
    refine kloop (V := Int32 × Int32 × (Nat → Int32) × Int32) (I := fun n v => IX9_ask_24 p0 v_sights v_byWool v_sightSundays v_sightWool n p0 (v.2.2.2) (v.1) (v.2.1) (v.2.2.1)) (wv := fun v => [(h_this, .inr (9, [.int v_present, .ref h_this_wool, .ref h_this_stitches, .ref h_this_place, .int v_chest, .int v_years, .ref h_this_sightSundays, .ref h_this_sightWool, .int v_sights, .ref h_this_pad, .int v_padMany, .ref h_this_act, .ref h_this_which, .ref h_this_much, .int v_acts, .int v_sweptMany, .ref h_this_had, .int v_badAct, .int v_badWhy, .int v_sweptAct, .int v_sweptWhich, .ref h_this_rows, .ref h_this_groups, .ref h_this_covers, .ref h_this_byWool, .ref h_this_wins, .ref h_this_kept, .ref h_this_isKept, .int v_keptAt, .int v_isWriting])), (h_this_byWool, .inl (cI, 100, .inl (v.2.2.1))), (h_this_sightSundays, .inl (cI, 8, .inl v_sightSundays)), (h_this_sightWool, .inl (cI, 8, .inl v_sightWool))]) (lv := fun v => [(0, .ref h_this), (1, .int p0), (2, .int (v.2.2.2)), (3, .int (v.1)), (4, .int (v.2.1))]) n0_4 (r_3, (1 : Int32), f_2, (0 : Int32)) hi0_4 hP hD hS (lv_sub hl [3, 4, 2, 1, 0] rfl) ?_
    intro n_4 v_4 hi_4 ih_4 H locs hP hD hS ls hl
    obtain ⟨i_5, i_6, f_7, i_8⟩ := v_4
    replace vc := vc n_4 i_5 i_6 f_7 i_8 hi_4
    have hP : va_P D vwCl [(h_this, .inr (9, [.int v_present, .ref h_this_wool, .ref h_this_stitches, .ref h_this_place, .int v_chest, .int v_years, .ref h_this_sightSundays, .ref h_this_sightWool, .int v_sights, .ref h_this_pad, .int v_padMany, .ref h_this_act, .ref h_this_which, .ref h_this_much, .int v_acts, .int v_sweptMany, .ref h_this_had, .int v_badAct, .int v_badWhy, .int v_sweptAct, .int v_sweptWhich, .ref h_this_rows, .ref h_this_groups, .ref h_this_covers, .ref h_this_byWool, .ref h_this_wins, .ref h_this_kept, .ref h_this_isKept, .int v_keptAt, .int v_isWriting])), (h_this_byWool, .inl (cI, 100, .inl f_7)), (h_this_sightSundays, .inl (cI, 8, .inl v_sightSundays)), (h_this_sightWool, .inl (cI, 8, .inl v_sightWool))] H := hP
    have hD : va_D A [(h_this, .inr (9, [.int v_present, .ref h_this_wool, .ref h_this_stitches, .ref h_this_place, .int v_chest, .int v_years, .ref h_this_sightSundays, .ref h_this_sightWool, .int v_sights, .ref h_this_pad, .int v_padMany, .ref h_this_act, .ref h_this_which, .ref h_this_much, .int v_acts, .int v_sweptMany, .ref h_this_had, .int v_badAct, .int v_badWhy, .int v_sweptAct, .int v_sweptWhich, .ref h_this_rows, .ref h_this_groups, .ref h_this_covers, .ref h_this_byWool, .ref h_this_wins, .ref h_this_kept, .ref h_this_isKept, .int v_keptAt, .int v_isWriting])), (h_this_byWool, .inl (cI, 100, .inl f_7)), (h_this_sightSundays, .inl (cI, 8, .inl v_sightSundays)), (h_this_sightWool, .inl (cI, 8, .inl v_sightWool))] := hD
    have hl : lv_has ls 6 [(0, .ref h_this), (1, .int p0), (2, .int i_8), (3, .int i_5), (4, .int i_6)] := hl
    refine lv_iload hx hb dX9_ask_24 (lv_at hl 4 rfl) ?_
    refine lv_bipush (v := (60 : Int32)) hx hb dX9_ask_26 (by decide) ?_
    refine lv_icmp_gt (tgt := 65) hx hb dX9_ask_28 (by decide) (fun c_ => ?_) (fun c_ => ?_)
    · replace vc := vc.1 c_
      refine lv_iload_n hx hb dX9_ask_65 rfl (lv_at hl 3 rfl) ?_
      refine lv_if_ne (tgt := 74) hx hb dX9_ask_66 (by decide) (fun c_ => ?_) (fun c_ => ?_)
      · replace vc := vc.1 c_
        refine lv_iload_n hx hb dX9_ask_74 rfl (lv_at hl 1 rfl) ?_
        refine lv_if_ne (tgt := 82) hx hb dX9_ask_75 (by decide) (fun c_ => ?_) (fun c_ => ?_)
        · replace vc := vc.1 c_
          refine lv_iload_n hx hb dX9_ask_82 rfl (lv_at hl 3 rfl) ?_
          exact W.iret (v := i_5) hx hb hr (fun t ht hW => ⟨⟨i_5, (f_7), rfl, vc, QB_mk (hP.sub [0, 1, 2, 3] rfl) (hD.sub [0, 1, 2, 3] rfl rfl) ht⟩, hS.F ht⟩) hS.2.2 dX9_ask_83
        · replace vc := vc.2 c_
          refine lv_iload_n hx hb dX9_ask_78 rfl (lv_at hl 2 rfl) ?_
          refine lv_goto (tgt := 83) hx hb dX9_ask_79 (by decide) ?_
          exact W.iret (v := i_8) hx hb hr (fun t ht hW => ⟨⟨i_8, (f_7), rfl, vc, QB_mk (hP.sub [0, 1, 2, 3] rfl) (hD.sub [0, 1, 2, 3] rfl rfl) ht⟩, hS.F ht⟩) hS.2.2 dX9_ask_83
      · replace vc := vc.2 c_
        refine lv_bipush (v := (-6 : Int32)) hx hb dX9_ask_69 (by decide) ?_
        refine lv_goto (tgt := 83) hx hb dX9_ask_71 (by decide) ?_
        exact W.iret (v := (-6 : Int32)) hx hb hr (fun t ht hW => ⟨⟨(-6 : Int32), (f_7), rfl, vc, QB_mk (hP.sub [0, 1, 2, 3] rfl) (hD.sub [0, 1, 2, 3] rfl rfl) ht⟩, hS.F ht⟩) hS.2.2 dX9_ask_83
    · replace vc := vc.2 c_
      refine lv_aload_n hx hb dX9_ask_31 rfl (lv_at hl 0 rfl) ?_
      refine lv_iload hx hb dX9_ask_32 (lv_at hl 4 rfl) ?_
      refine kj_i (wr := []) (rest := []) (kV ⟨hx, hb, hml, hown, hts⟩ (kX9_mostLeft _ h_this h_this_wool h_this_stitches h_this_place h_this_sightSundays h_this_sightWool h_this_pad h_this_act h_this_which h_this_much h_this_had h_this_rows h_this_groups h_this_covers h_this_byWool h_this_wins h_this_kept h_this_isKept i_6 v_present v_chest v_years v_sights v_padMany v_acts v_sweptMany v_badAct v_badWhy v_sweptAct v_sweptWhich v_keptAt v_isWriting f_7 v_sightSundays v_sightWool vc.1) (cwV 1 hts gX9_ask_X9_mostLeft rfl rfl rfl (by decide +kernel) ⟨(Nat.le_of_ble_eq_true rfl), (Nat.le_of_ble_eq_true rfl)⟩) hK hP hD [0, 1, 2, 3] rfl rfl 0 9 rfl rfl rfl rfl rfl hl.1 (Nat.le_of_ble_eq_true rfl) dX9_ask_34 ⟨(Nat.le_of_ble_eq_true rfl), (Nat.le_of_ble_eq_true rfl)⟩) hP hD hS hA [0, 1, 2, 3] [] rfl rfl rfl rfl (fun r_10 u_ H locs hq_ hP hD hS => ?_)
      obtain ⟨f_9, rfl⟩ : ∃ z, z = u_ := ⟨_, rfl⟩
      replace vc := vc.2 r_10 f_9 hq_
      have hP : va_P D vwCl [(h_this, .inr (9, [.int v_present, .ref h_this_wool, .ref h_this_stitches, .ref h_this_place, .int v_chest, .int v_years, .ref h_this_sightSundays, .ref h_this_sightWool, .int v_sights, .ref h_this_pad, .int v_padMany, .ref h_this_act, .ref h_this_which, .ref h_this_much, .int v_acts, .int v_sweptMany, .ref h_this_had, .int v_badAct, .int v_badWhy, .int v_sweptAct, .int v_sweptWhich, .ref h_this_rows, .ref h_this_groups, .ref h_this_covers, .ref h_this_byWool, .ref h_this_wins, .ref h_this_kept, .ref h_this_isKept, .int v_keptAt, .int v_isWriting])), (h_this_byWool, .inl (cI, 100, .inl f_9)), (h_this_sightSundays, .inl (cI, 8, .inl v_sightSundays)), (h_this_sightWool, .inl (cI, 8, .inl v_sightWool))] H := hP
      have hD : va_D A [(h_this, .inr (9, [.int v_present, .ref h_this_wool, .ref h_this_stitches, .ref h_this_place, .int v_chest, .int v_years, .ref h_this_sightSundays, .ref h_this_sightWool, .int v_sights, .ref h_this_pad, .int v_padMany, .ref h_this_act, .ref h_this_which, .ref h_this_much, .int v_acts, .int v_sweptMany, .ref h_this_had, .int v_badAct, .int v_badWhy, .int v_sweptAct, .int v_sweptWhich, .ref h_this_rows, .ref h_this_groups, .ref h_this_covers, .ref h_this_byWool, .ref h_this_wins, .ref h_this_kept, .ref h_this_isKept, .int v_keptAt, .int v_isWriting])), (h_this_byWool, .inl (cI, 100, .inl f_9)), (h_this_sightSundays, .inl (cI, 8, .inl v_sightSundays)), (h_this_sightWool, .inl (cI, 8, .inl v_sightWool))] := hD
      refine lv_istore (lv' := [(5, .int r_10), (0, .ref h_this), (1, .int p0), (2, .int i_8), (3, .int i_5), (4, .int i_6)]) hx hb dX9_ask_37 hl (by decide) rfl (fun ls hl => ?_)
      refine lv_iload hx hb dX9_ask_39 (lv_at hl 0 rfl) ?_
      refine lv_iload_n hx hb dX9_ask_41 rfl (lv_at hl 4 rfl) ?_
      refine lv_icmp_ge (tgt := 50) hx hb dX9_ask_42 (by decide) (fun c_ => ?_) (fun c_ => ?_)
      · replace vc := vc.1 c_
        refine lv_iload_n hx hb dX9_ask_50 rfl (lv_at hl 3 rfl) ?_
        refine lv_istore_n (lv' := [(2, .int i_8), (5, .int r_10), (0, .ref h_this), (1, .int p0), (3, .int i_5), (4, .int i_6)]) hx hb dX9_ask_51 rfl hl (by decide) rfl (fun ls hl => ?_)
        refine lv_iload_n hx hb dX9_ask_52 rfl (lv_at hl 4 rfl) ?_
        refine lv_iload hx hb dX9_ask_53 (lv_at hl 1 rfl) ?_
        refine kj0_i (rest := []) (kS ⟨hx, hb, hml, hown, hts⟩ (kX9_less _ i_5 r_10 vc.1) (va_cwS 2 hts gX9_ask_X9_less rfl rfl rfl (by decide +kernel) ⟨(Nat.le_of_ble_eq_true rfl), (Nat.le_of_ble_eq_true rfl)⟩) hK rfl rfl hl.1 (Nat.le_of_ble_eq_true rfl) dX9_ask_55 ⟨(Nat.le_of_ble_eq_true rfl), (Nat.le_of_ble_eq_true rfl)⟩) hP hS hA (fun r_11 H locs hq_ hP hS => ?_)
        replace vc := vc.2 r_11 hq_
        have hP : va_P D vwCl [(h_this, .inr (9, [.int v_present, .ref h_this_wool, .ref h_this_stitches, .ref h_this_place, .int v_chest, .int v_years, .ref h_this_sightSundays, .ref h_this_sightWool, .int v_sights, .ref h_this_pad, .int v_padMany, .ref h_this_act, .ref h_this_which, .ref h_this_much, .int v_acts, .int v_sweptMany, .ref h_this_had, .int v_badAct, .int v_badWhy, .int v_sweptAct, .int v_sweptWhich, .ref h_this_rows, .ref h_this_groups, .ref h_this_covers, .ref h_this_byWool, .ref h_this_wins, .ref h_this_kept, .ref h_this_isKept, .int v_keptAt, .int v_isWriting])), (h_this_byWool, .inl (cI, 100, .inl f_9)), (h_this_sightSundays, .inl (cI, 8, .inl v_sightSundays)), (h_this_sightWool, .inl (cI, 8, .inl v_sightWool))] H := hP
        refine lv_istore_n (lv' := [(3, .int r_11), (2, .int i_8), (5, .int r_10), (0, .ref h_this), (1, .int p0), (4, .int i_6)]) hx hb dX9_ask_58 rfl hl (by decide) rfl (fun ls hl => ?_)
        obtain ⟨x_12, ex_12⟩ : ∃ y_ : Int32, y_ = (i_6 + (1 : Int32)) := ⟨_, rfl⟩
        replace vc := vc x_12 ex_12
        refine lv_iinc (v := x_12) (lv' := [(4, .int x_12), (3, .int r_11), (2, .int i_8), (5, .int r_10), (0, .ref h_this), (1, .int p0)]) hx hb dX9_ask_59 hl (k := 5) rfl (by rw [ex_12]; rfl) (by decide) rfl (fun ls hl => ?_)
        refine lv_goto (tgt := 24) hx hb dX9_ask_62 (by decide) ?_
        obtain ⟨n1_, hlt_, hi_⟩ := vc
        exact ih_4 n1_ (r_11, x_12, f_9, i_8) hlt_ hi_ _ _ hP hD hS ls (lv_sub hl [4, 5, 2, 1, 0] rfl)
      · replace vc := vc.2 c_
        refine lv_iload hx hb dX9_ask_45 (lv_at hl 5 rfl) ?_
        refine lv_goto (tgt := 51) hx hb dX9_ask_47 (by decide) ?_
        refine lv_istore_n (lv' := [(2, .int i_6), (5, .int r_10), (0, .ref h_this), (1, .int p0), (3, .int i_5), (4, .int i_6)]) hx hb dX9_ask_51 rfl hl (by decide) rfl (fun ls hl => ?_)
        refine lv_iload_n hx hb dX9_ask_52 rfl (lv_at hl 4 rfl) ?_
        refine lv_iload hx hb dX9_ask_53 (lv_at hl 1 rfl) ?_
        refine kj0_i (rest := []) (kS ⟨hx, hb, hml, hown, hts⟩ (kX9_less _ i_5 r_10 vc.1) (va_cwS 2 hts gX9_ask_X9_less rfl rfl rfl (by decide +kernel) ⟨(Nat.le_of_ble_eq_true rfl), (Nat.le_of_ble_eq_true rfl)⟩) hK rfl rfl hl.1 (Nat.le_of_ble_eq_true rfl) dX9_ask_55 ⟨(Nat.le_of_ble_eq_true rfl), (Nat.le_of_ble_eq_true rfl)⟩) hP hS hA (fun r_13 H locs hq_ hP hS => ?_)
        replace vc := vc.2 r_13 hq_
        have hP : va_P D vwCl [(h_this, .inr (9, [.int v_present, .ref h_this_wool, .ref h_this_stitches, .ref h_this_place, .int v_chest, .int v_years, .ref h_this_sightSundays, .ref h_this_sightWool, .int v_sights, .ref h_this_pad, .int v_padMany, .ref h_this_act, .ref h_this_which, .ref h_this_much, .int v_acts, .int v_sweptMany, .ref h_this_had, .int v_badAct, .int v_badWhy, .int v_sweptAct, .int v_sweptWhich, .ref h_this_rows, .ref h_this_groups, .ref h_this_covers, .ref h_this_byWool, .ref h_this_wins, .ref h_this_kept, .ref h_this_isKept, .int v_keptAt, .int v_isWriting])), (h_this_byWool, .inl (cI, 100, .inl f_9)), (h_this_sightSundays, .inl (cI, 8, .inl v_sightSundays)), (h_this_sightWool, .inl (cI, 8, .inl v_sightWool))] H := hP
        refine lv_istore_n (lv' := [(3, .int r_13), (2, .int i_6), (5, .int r_10), (0, .ref h_this), (1, .int p0), (4, .int i_6)]) hx hb dX9_ask_58 rfl hl (by decide) rfl (fun ls hl => ?_)
        obtain ⟨x_14, ex_14⟩ : ∃ y_ : Int32, y_ = (i_6 + (1 : Int32)) := ⟨_, rfl⟩
        replace vc := vc x_14 ex_14
        refine lv_iinc (v := x_14) (lv' := [(4, .int x_14), (3, .int r_13), (2, .int i_6), (5, .int r_10), (0, .ref h_this), (1, .int p0)]) hx hb dX9_ask_59 hl (k := 5) rfl (by rw [ex_14]; rfl) (by decide) rfl (fun ls hl => ?_)
        refine lv_goto (tgt := 24) hx hb dX9_ask_62 (by decide) ?_
        obtain ⟨n1_, hlt_, hi_⟩ := vc
        exact ih_4 n1_ (r_13, x_14, f_9, i_6) hlt_ hi_ _ _ hP hD hS ls (lv_sub hl [4, 5, 2, 1, 0] rfl)
  · replace vc := vc.2 c_
    refine lv_bipush (v := (-2 : Int32)) hx hb dX9_ask_10 (by decide) ?_
    exact W.iret (v := (-2 : Int32)) hx hb hr (fun t ht hW => ⟨⟨(-2 : Int32), (v_byWool), rfl, vc, QB_mk (hP.sub [0, 1, 2, 3] rfl) (hD.sub [0, 1, 2, 3] rfl rfl) ht⟩, hS.F ht⟩) hS.2.2 dX9_ask_12

theorem mwX9_leastPick_1 : Cond.fieldLink RX9 53 "HassockSeeModel" "wins" "[Z" ∈ wsX9_leastPick := List.mem_of_getElem? (i := 1) rfl
theorem mcX9_leastPick_X9 : ∀ w ∈ u_ws RX9 TX9 30, w ∈ wsX9_leastPick := fun _ h => (List.mem_cons_of_mem _ (List.mem_append_right _ h))
def KX9_leastPick (l : Launch) (D : va_G) (cI cZ : ClassId) (P : Int32 → (Nat → Int32) → Prop) (Q : Int32 → (Nat → Int32) → Int32 → Prop) : Prop := ∀ (sz : Nat) (h_this h_this_wool h_this_stitches h_this_place h_this_sightSundays h_this_sightWool h_this_pad h_this_act h_this_which h_this_much h_this_had h_this_rows h_this_groups h_this_covers h_this_byWool h_this_wins h_this_kept h_this_isKept : Nat) (p0 : Int32) (v_present : Int32) (v_chest : Int32) (v_years : Int32) (v_sights : Int32) (v_padMany : Int32) (v_acts : Int32) (v_sweptMany : Int32) (v_badAct : Int32) (v_badWhy : Int32) (v_sweptAct : Int32) (v_sweptWhich : Int32) (v_keptAt : Int32) (v_isWriting : Int32) (v_wins : (Nat → Int32)), P p0 v_wins → MI l yX9_leastPick wsX9_leastPick ({ frames := 1, cells := 0, slots := 0, locals := 21 }) [.ref h_this, .int p0] D cI cZ sz [(h_this, .inr (9, [.int v_present, .ref h_this_wool, .ref h_this_stitches, .ref h_this_place, .int v_chest, .int v_years, .ref h_this_sightSundays, .ref h_this_sightWool, .int v_sights, .ref h_this_pad, .int v_padMany, .ref h_this_act, .ref h_this_which, .ref h_this_much, .int v_acts, .int v_sweptMany, .ref h_this_had, .int v_badAct, .int v_badWhy, .int v_sweptAct, .int v_sweptWhich, .ref h_this_rows, .ref h_this_groups, .ref h_this_covers, .ref h_this_byWool, .ref h_this_wins, .ref h_this_kept, .ref h_this_isKept, .int v_keptAt, .int v_isWriting])), (h_this_wins, .inl (cZ, 256, .inl v_wins))] (fun r (u : Unit) => Q p0 v_wins r ) (fun u => [(h_this, .inr (9, [.int v_present, .ref h_this_wool, .ref h_this_stitches, .ref h_this_place, .int v_chest, .int v_years, .ref h_this_sightSundays, .ref h_this_sightWool, .int v_sights, .ref h_this_pad, .int v_padMany, .ref h_this_act, .ref h_this_which, .ref h_this_much, .int v_acts, .int v_sweptMany, .ref h_this_had, .int v_badAct, .int v_badWhy, .int v_sweptAct, .int v_sweptWhich, .ref h_this_rows, .ref h_this_groups, .ref h_this_covers, .ref h_this_byWool, .ref h_this_wins, .ref h_this_kept, .ref h_this_isKept, .int v_keptAt, .int v_isWriting])), (h_this_wins, .inl (cZ, 256, .inl v_wins))]) 0 0
set_option maxHeartbeats 4000000 in
set_option maxRecDepth 100000 in
theorem walkX9_leastPick {l : Launch} {D : va_G} {cI cZ : ClassId} {PX9_leastPick : Int32 → (Nat → Int32) → Prop} {QX9_leastPick : Int32 → (Nat → Int32) → Int32 → Prop} {PX9_has : Int32 → Int32 → Prop} {QX9_has : Int32 → Int32 → Int32 → Prop} (kX9_has : KX9_has l D cI cZ PX9_has QX9_has) (IX9_leastPick_6 : Int32 → (Nat → Int32) → Nat → Int32 → Int32 → Int32 → Prop) (hvc : ∀ (p0 : Int32) (v_wins : (Nat → Int32)), PX9_leastPick p0 v_wins → ((∃ n0 : Nat, IX9_leastPick_6 p0 v_wins n0 p0 (-6 : Int32) (7 : Int32)) ∧ (∀ (n_1 : Nat) (i_2 : Int32) (i_3 : Int32), (IX9_leastPick_6 p0 v_wins n_1 p0 i_3 i_2 → ((i_2 < 0 → (QX9_leastPick p0 v_wins i_3 )) ∧ (¬ i_2 < 0 → (∀ x_4 : Int32, x_4 = ((3 : Int32) <<< (i_2 &&& 31)) → (((7 : Int32) ≤ i_2 → (PX9_has p0 i_2 ∧ (∀ r_5 : Int32, QX9_has p0 i_2 r_5 → ((r_5 = 0 → (∀ x_6 : Int32, x_6 = (i_2 + (-1 : Int32)) → (∃ n1 : Nat, n1 < n_1 ∧ IX9_leastPick_6 p0 v_wins n1 p0 i_3 x_6))) ∧ (¬ r_5 = 0 → (vp_in (p0 &&& (((1 : Int32) <<< (i_2 &&& 31)) ^^^ (-1 : Int32))) 256 ∧ ((¬ (v_wins ((p0 &&& (((1 : Int32) <<< (i_2 &&& 31)) ^^^ (-1 : Int32)))).toNatClampNeg) = 0 → (∀ x_8 : Int32, x_8 = (i_2 + (-1 : Int32)) → (∃ n1 : Nat, n1 < n_1 ∧ IX9_leastPick_6 p0 v_wins n1 p0 i_3 x_8))) ∧ ((v_wins ((p0 &&& (((1 : Int32) <<< (i_2 &&& 31)) ^^^ (-1 : Int32)))).toNatClampNeg) = 0 → (∀ x_9 : Int32, x_9 = (((10 : Int32) * i_2) + (1 : Int32)) → (∀ x_10 : Int32, x_10 = (i_2 + (-1 : Int32)) → (∃ n1 : Nat, n1 < n_1 ∧ IX9_leastPick_6 p0 v_wins n1 p0 x_9 x_10))))))))))) ∧ (¬ (7 : Int32) ≤ i_2 → ((¬ (p0 &&& x_4) = x_4 → (PX9_has p0 i_2 ∧ (∀ r_11 : Int32, QX9_has p0 i_2 r_11 → ((r_11 = 0 → (∀ x_12 : Int32, x_12 = (i_2 + (-1 : Int32)) → (∃ n1 : Nat, n1 < n_1 ∧ IX9_leastPick_6 p0 v_wins n1 p0 i_3 x_12))) ∧ (¬ r_11 = 0 → (vp_in (p0 &&& (((1 : Int32) <<< (i_2 &&& 31)) ^^^ (-1 : Int32))) 256 ∧ ((¬ (v_wins ((p0 &&& (((1 : Int32) <<< (i_2 &&& 31)) ^^^ (-1 : Int32)))).toNatClampNeg) = 0 → (∀ x_14 : Int32, x_14 = (i_2 + (-1 : Int32)) → (∃ n1 : Nat, n1 < n_1 ∧ IX9_leastPick_6 p0 v_wins n1 p0 i_3 x_14))) ∧ ((v_wins ((p0 &&& (((1 : Int32) <<< (i_2 &&& 31)) ^^^ (-1 : Int32)))).toNatClampNeg) = 0 → (∀ x_15 : Int32, x_15 = (((10 : Int32) * i_2) + (1 : Int32)) → (∀ x_16 : Int32, x_16 = (i_2 + (-1 : Int32)) → (∃ n1 : Nat, n1 < n_1 ∧ IX9_leastPick_6 p0 v_wins n1 p0 x_15 x_16))))))))))) ∧ ((p0 &&& x_4) = x_4 → (vp_in ((p0 &&& (x_4 ^^^ (-1 : Int32))) &&& (255 : Int32)) 256 ∧ ((¬ (v_wins (((p0 &&& (x_4 ^^^ (-1 : Int32))) &&& (255 : Int32))).toNatClampNeg) = 0 → (PX9_has p0 i_2 ∧ (∀ r_18 : Int32, QX9_has p0 i_2 r_18 → ((r_18 = 0 → (∀ x_19 : Int32, x_19 = (i_2 + (-1 : Int32)) → (∃ n1 : Nat, n1 < n_1 ∧ IX9_leastPick_6 p0 v_wins n1 p0 i_3 x_19))) ∧ (¬ r_18 = 0 → (vp_in (p0 &&& (((1 : Int32) <<< (i_2 &&& 31)) ^^^ (-1 : Int32))) 256 ∧ ((¬ (v_wins ((p0 &&& (((1 : Int32) <<< (i_2 &&& 31)) ^^^ (-1 : Int32)))).toNatClampNeg) = 0 → (∀ x_21 : Int32, x_21 = (i_2 + (-1 : Int32)) → (∃ n1 : Nat, n1 < n_1 ∧ IX9_leastPick_6 p0 v_wins n1 p0 i_3 x_21))) ∧ ((v_wins ((p0 &&& (((1 : Int32) <<< (i_2 &&& 31)) ^^^ (-1 : Int32)))).toNatClampNeg) = 0 → (∀ x_22 : Int32, x_22 = (((10 : Int32) * i_2) + (1 : Int32)) → (∀ x_23 : Int32, x_23 = (i_2 + (-1 : Int32)) → (∃ n1 : Nat, n1 < n_1 ∧ IX9_leastPick_6 p0 v_wins n1 p0 x_22 x_23))))))))))) ∧ ((v_wins (((p0 &&& (x_4 ^^^ (-1 : Int32))) &&& (255 : Int32))).toNatClampNeg) = 0 → (∀ x_24 : Int32, x_24 = (((10 : Int32) * i_2) + (2 : Int32)) → (PX9_has p0 i_2 ∧ (∀ r_25 : Int32, QX9_has p0 i_2 r_25 → ((r_25 = 0 → (∀ x_26 : Int32, x_26 = (i_2 + (-1 : Int32)) → (∃ n1 : Nat, n1 < n_1 ∧ IX9_leastPick_6 p0 v_wins n1 p0 x_24 x_26))) ∧ (¬ r_25 = 0 → (vp_in (p0 &&& (((1 : Int32) <<< (i_2 &&& 31)) ^^^ (-1 : Int32))) 256 ∧ ((¬ (v_wins ((p0 &&& (((1 : Int32) <<< (i_2 &&& 31)) ^^^ (-1 : Int32)))).toNatClampNeg) = 0 → (∀ x_28 : Int32, x_28 = (i_2 + (-1 : Int32)) → (∃ n1 : Nat, n1 < n_1 ∧ IX9_leastPick_6 p0 v_wins n1 p0 x_24 x_28))) ∧ ((v_wins ((p0 &&& (((1 : Int32) <<< (i_2 &&& 31)) ^^^ (-1 : Int32)))).toNatClampNeg) = 0 → (∀ x_29 : Int32, x_29 = (((10 : Int32) * i_2) + (1 : Int32)) → (∀ x_30 : Int32, x_30 = (i_2 + (-1 : Int32)) → (∃ n1 : Nat, n1 < n_1 ∧ IX9_leastPick_6 p0 v_wins n1 p0 x_29 x_30))))))))))))))))))))))))) : KX9_leastPick l D cI cZ PX9_leastPick QX9_leastPick := by
  intro sz h_this h_this_wool h_this_stitches h_this_place h_this_sightSundays h_this_sightWool h_this_pad h_this_act h_this_which h_this_much h_this_had h_this_rows h_this_groups h_this_covers h_this_byWool h_this_wins h_this_kept h_this_isKept p0 v_present v_chest v_years v_sights v_padMany v_acts v_sweptMany v_badAct v_badWhy v_sweptAct v_sweptWhich v_keptAt v_isWriting v_wins hpre
  have vc := hvc p0 v_wins hpre
  clear hvc
  refine Met.ofW (cc := cX9_leastPick) (maxL := 6) (ret := (some .int)) (by decide) rfl ?_
  intro p e s m args below meth c s₁ B hml hv
  obtain ⟨rfl, hsz, hP, hK, hD0⟩ := hv
  have hx := B.exec
  have hb := B.bytes
  have hr := B.returns
  have hts := atoms_spec (ws := wsX9_leastPick) B.pre
  have hown : s.vm.findClass RX9 = some m.cls := findClass_of_methodNamed B.named
  have hlocks := B.notSynchronized
  subst hsz
  have hD := hD0.self (sz := s.heap.size)
  generalize hAe : va_A [(h_this, .inr (9, [.int v_present, .ref h_this_wool, .ref h_this_stitches, .ref h_this_place, .int v_chest, .int v_years, .ref h_this_sightSundays, .ref h_this_sightWool, .int v_sights, .ref h_this_pad, .int v_padMany, .ref h_this_act, .ref h_this_which, .ref h_this_much, .int v_acts, .int v_sweptMany, .ref h_this_had, .int v_badAct, .int v_badWhy, .int v_sweptAct, .int v_sweptWhich, .ref h_this_rows, .ref h_this_groups, .ref h_this_covers, .ref h_this_byWool, .ref h_this_wins, .ref h_this_kept, .ref h_this_isKept, .int v_keptAt, .int v_isWriting])), (h_this_wins, .inl (cZ, 256, .inl v_wins))] s.heap.size = A at hD ⊢
  have hA : ∀ q : Nat, s.heap.size ≤ q → A q := fun q h => by rw [← hAe]; exact Or.inr h
  have hS : va_S A s.heap s.heap [] := va_S.rf
  have hP : va_P D vwCl [(h_this, .inr (9, [.int v_present, .ref h_this_wool, .ref h_this_stitches, .ref h_this_place, .int v_chest, .int v_years, .ref h_this_sightSundays, .ref h_this_sightWool, .int v_sights, .ref h_this_pad, .int v_padMany, .ref h_this_act, .ref h_this_which, .ref h_this_much, .int v_acts, .int v_sweptMany, .ref h_this_had, .int v_badAct, .int v_badWhy, .int v_sweptAct, .int v_sweptWhich, .ref h_this_rows, .ref h_this_groups, .ref h_this_covers, .ref h_this_byWool, .ref h_this_wins, .ref h_this_kept, .ref h_this_isKept, .int v_keptAt, .int v_isWriting])), (h_this_wins, .inl (cZ, 256, .inl v_wins))] s.heap := hP
  have hl := lv_entry ([.ref h_this, .int p0]) (n := 6) (Nat.le_of_ble_eq_true rfl)
  rw [lg_entry_eq]
  generalize (lg_sl ([.ref h_this, .int p0]) ++ List.replicate (6 - (lg_sl ([.ref h_this, .int p0])).length) Slot.unset).toArray = ls at hl ⊢
  have hl : lv_has ls 6 [(0, .ref h_this), (1, .int p0)] := hl
  refine lv_bipush (v := (-6 : Int32)) hx hb dX9_leastPick_0 (by decide) ?_
  refine lv_istore_n (lv' := [(2, .int (-6 : Int32)), (0, .ref h_this), (1, .int p0)]) hx hb dX9_leastPick_2 rfl hl (by decide) rfl (fun ls hl => ?_)
  refine lv_bipush (v := (7 : Int32)) hx hb dX9_leastPick_3 (by decide) ?_
  refine lv_istore_n (lv' := [(3, .int (7 : Int32)), (2, .int (-6 : Int32)), (0, .ref h_this), (1, .int p0)]) hx hb dX9_leastPick_5 rfl hl (by decide) rfl (fun ls hl => ?_)
  obtain ⟨⟨n0_1, hi0_1⟩, vc⟩ := vc
  refine kloop (V := Int32 × Int32) (I := fun n v => IX9_leastPick_6 p0 v_wins n p0 (v.2) (v.1)) (wv := fun v => [(h_this, .inr (9, [.int v_present, .ref h_this_wool, .ref h_this_stitches, .ref h_this_place, .int v_chest, .int v_years, .ref h_this_sightSundays, .ref h_this_sightWool, .int v_sights, .ref h_this_pad, .int v_padMany, .ref h_this_act, .ref h_this_which, .ref h_this_much, .int v_acts, .int v_sweptMany, .ref h_this_had, .int v_badAct, .int v_badWhy, .int v_sweptAct, .int v_sweptWhich, .ref h_this_rows, .ref h_this_groups, .ref h_this_covers, .ref h_this_byWool, .ref h_this_wins, .ref h_this_kept, .ref h_this_isKept, .int v_keptAt, .int v_isWriting])), (h_this_wins, .inl (cZ, 256, .inl v_wins))]) (lv := fun v => [(0, .ref h_this), (1, .int p0), (2, .int (v.2)), (3, .int (v.1))]) n0_1 ((7 : Int32), (-6 : Int32)) hi0_1 hP hD hS (lv_sub hl [2, 3, 1, 0] rfl) ?_
  intro n_1 v_1 hi_1 ih_1 H locs hP hD hS ls hl
  obtain ⟨i_2, i_3⟩ := v_1
  replace vc := vc n_1 i_2 i_3 hi_1
  have hP : va_P D vwCl [(h_this, .inr (9, [.int v_present, .ref h_this_wool, .ref h_this_stitches, .ref h_this_place, .int v_chest, .int v_years, .ref h_this_sightSundays, .ref h_this_sightWool, .int v_sights, .ref h_this_pad, .int v_padMany, .ref h_this_act, .ref h_this_which, .ref h_this_much, .int v_acts, .int v_sweptMany, .ref h_this_had, .int v_badAct, .int v_badWhy, .int v_sweptAct, .int v_sweptWhich, .ref h_this_rows, .ref h_this_groups, .ref h_this_covers, .ref h_this_byWool, .ref h_this_wins, .ref h_this_kept, .ref h_this_isKept, .int v_keptAt, .int v_isWriting])), (h_this_wins, .inl (cZ, 256, .inl v_wins))] H := hP
  have hD : va_D A [(h_this, .inr (9, [.int v_present, .ref h_this_wool, .ref h_this_stitches, .ref h_this_place, .int v_chest, .int v_years, .ref h_this_sightSundays, .ref h_this_sightWool, .int v_sights, .ref h_this_pad, .int v_padMany, .ref h_this_act, .ref h_this_which, .ref h_this_much, .int v_acts, .int v_sweptMany, .ref h_this_had, .int v_badAct, .int v_badWhy, .int v_sweptAct, .int v_sweptWhich, .ref h_this_rows, .ref h_this_groups, .ref h_this_covers, .ref h_this_byWool, .ref h_this_wins, .ref h_this_kept, .ref h_this_isKept, .int v_keptAt, .int v_isWriting])), (h_this_wins, .inl (cZ, 256, .inl v_wins))] := hD
  have hl : lv_has ls 6 [(0, .ref h_this), (1, .int p0), (2, .int i_3), (3, .int i_2)] := hl
  refine lv_iload_n hx hb dX9_leastPick_6 rfl (lv_at hl 3 rfl) ?_
  refine lv_if_lt (tgt := 111) hx hb dX9_leastPick_7 (by decide) (fun c_ => ?_) (fun c_ => ?_)
  · replace vc := vc.1 c_
    refine lv_iload_n hx hb dX9_leastPick_111 rfl (lv_at hl 2 rfl) ?_
    exact W.iret (v := i_3) hx hb hr (fun t ht hW => ⟨⟨i_3, (), rfl, vc, QB_mk (hP.sub [0, 1] rfl) (hD.sub [0, 1] rfl rfl) ht⟩, hS.F ht⟩) hS.2.2 dX9_leastPick_112
  · replace vc := vc.2 c_
    refine lv_iconst (v := (3 : Int32)) hx hb dX9_leastPick_10 (by decide) ?_
    refine lv_iload_n hx hb dX9_leastPick_11 rfl (lv_at hl 3 rfl) ?_
    refine lv_ishl hx hb dX9_leastPick_12 ?_
    refine lv_topi (fun x_4 ex_4 => ?_)
    replace vc := vc x_4 ex_4
    refine lv_istore (lv' := [(4, .int x_4), (0, .ref h_this), (1, .int p0), (2, .int i_3), (3, .int i_2)]) hx hb dX9_leastPick_13 hl (by decide) rfl (fun ls hl => ?_)
    refine lv_iload_n hx hb dX9_leastPick_15 rfl (lv_at hl 4 rfl) ?_
    refine lv_bipush (v := (7 : Int32)) hx hb dX9_leastPick_16 (by decide) ?_
    refine lv_icmp_ge (tgt := 34) hx hb dX9_leastPick_18 (by decide) (fun c_ => ?_) (fun c_ => ?_)
    · replace vc := vc.1 c_
      refine lv_iconst (v := (0 : Int32)) hx hb dX9_leastPick_34 (by decide) ?_
      refine lv_istore (lv' := [(5, .int (0 : Int32)), (4, .int x_4), (0, .ref h_this), (1, .int p0), (2, .int i_3), (3, .int i_2)]) hx hb dX9_leastPick_35 hl (by decide) rfl (fun ls hl => ?_)
      refine lv_iload hx hb dX9_leastPick_37 (lv_at hl 0 rfl) ?_
      refine lv_if_eq (tgt := 69) hx hb dX9_leastPick_39 (by decide) (fun _ => ?_) (fun c_ => absurd c_ (by decide))
      refine lv_iload_n hx hb dX9_leastPick_69 rfl (lv_at hl 4 rfl) ?_
      refine lv_istore_n (lv' := [(2, .int i_3), (5, .int (0 : Int32)), (4, .int x_4), (0, .ref h_this), (1, .int p0), (3, .int i_2)]) hx hb dX9_leastPick_70 rfl hl (by decide) rfl (fun ls hl => ?_)
      refine lv_iload_n hx hb dX9_leastPick_71 rfl (lv_at hl 4 rfl) ?_
      refine lv_iload_n hx hb dX9_leastPick_72 rfl (lv_at hl 5 rfl) ?_
      refine kj0_i (rest := []) (kS ⟨hx, hb, hml, hown, hts⟩ (kX9_has _ p0 i_2 vc.1) (va_cwS 2 hts gX9_leastPick_X9_has rfl rfl rfl (by decide +kernel) ⟨(Nat.le_of_ble_eq_true rfl), (Nat.le_of_ble_eq_true rfl)⟩) hK rfl rfl hl.1 (Nat.le_of_ble_eq_true rfl) dX9_leastPick_73 ⟨(Nat.le_of_ble_eq_true rfl), (Nat.le_of_ble_eq_true rfl)⟩) hP hS hA (fun r_5 H locs hq_ hP hS => ?_)
      replace vc := vc.2 r_5 hq_
      have hP : va_P D vwCl [(h_this, .inr (9, [.int v_present, .ref h_this_wool, .ref h_this_stitches, .ref h_this_place, .int v_chest, .int v_years, .ref h_this_sightSundays, .ref h_this_sightWool, .int v_sights, .ref h_this_pad, .int v_padMany, .ref h_this_act, .ref h_this_which, .ref h_this_much, .int v_acts, .int v_sweptMany, .ref h_this_had, .int v_badAct, .int v_badWhy, .int v_sweptAct, .int v_sweptWhich, .ref h_this_rows, .ref h_this_groups, .ref h_this_covers, .ref h_this_byWool, .ref h_this_wins, .ref h_this_kept, .ref h_this_isKept, .int v_keptAt, .int v_isWriting])), (h_this_wins, .inl (cZ, 256, .inl v_wins))] H := hP
      refine lv_if_eq (tgt := 103) hx hb dX9_leastPick_76 (by decide) (fun c_ => ?_) (fun c_ => ?_)
      · replace vc := vc.1 c_
        refine lv_iload_n hx hb dX9_leastPick_103 rfl (lv_at hl 0 rfl) ?_
        refine lv_istore_n (lv' := [(2, .int i_3), (5, .int (0 : Int32)), (4, .int x_4), (0, .ref h_this), (1, .int p0), (3, .int i_2)]) hx hb dX9_leastPick_104 rfl hl (by decide) rfl (fun ls hl => ?_)
        obtain ⟨x_6, ex_6⟩ : ∃ y_ : Int32, y_ = (i_2 + (-1 : Int32)) := ⟨_, rfl⟩
        replace vc := vc x_6 ex_6
        refine lv_iinc (v := x_6) (lv' := [(3, .int x_6), (2, .int i_3), (5, .int (0 : Int32)), (4, .int x_4), (0, .ref h_this), (1, .int p0)]) hx hb dX9_leastPick_105 hl (k := 5) rfl (by rw [ex_6]; rfl) (by decide) rfl (fun ls hl => ?_)
        refine lv_goto (tgt := 6) hx hb dX9_leastPick_108 (by decide) ?_
        obtain ⟨n1_, hlt_, hi_⟩ := vc
        exact ih_1 n1_ (x_6, i_3) hlt_ hi_ _ _ hP hD hS ls (lv_sub hl [4, 5, 1, 0] rfl)
      · replace vc := vc.2 c_
        refine lv_aload_n hx hb dX9_leastPick_79 rfl (lv_at hl 3 rfl) ?_
        refine va_get (D := D) (ci := 9) (v := .ref h_this_wins) (C := RX9) (T := TX9) (N := 30) hx hb hts mcX9_leastPick_X9 hown hK.1 hP 0 rfl rfl 25 (by decide) (hts _ mwX9_leastPick_1) (fun _ h9 => h9) rfl dX9_leastPick_80 ?_
        refine lv_iload_n hx hb dX9_leastPick_83 rfl (lv_at hl 4 rfl) ?_
        refine lv_iconst (v := (1 : Int32)) hx hb dX9_leastPick_84 (by decide) ?_
        refine lv_iload_n hx hb dX9_leastPick_85 rfl (lv_at hl 5 rfl) ?_
        refine lv_ishl hx hb dX9_leastPick_86 ?_
        refine lv_iconst (v := (-1 : Int32)) hx hb dX9_leastPick_87 (by decide) ?_
        refine lv_ixor hx hb dX9_leastPick_88 ?_
        refine lv_iand hx hb dX9_leastPick_89 ?_
        have hi_7 := vc.1
        replace vc := vc.2
        refine va_zald hx hb hK.1 hP 1 1 rfl rfl hi_7 dX9_leastPick_90 ?_
        refine lv_if_ne (tgt := 103) hx hb dX9_leastPick_91 (by decide) (fun c_ => ?_) (fun c_ => ?_)
        · replace vc := vc.1 c_
          refine lv_iload_n hx hb dX9_leastPick_103 rfl (lv_at hl 0 rfl) ?_
          refine lv_istore_n (lv' := [(2, .int i_3), (5, .int (0 : Int32)), (4, .int x_4), (0, .ref h_this), (1, .int p0), (3, .int i_2)]) hx hb dX9_leastPick_104 rfl hl (by decide) rfl (fun ls hl => ?_)
          obtain ⟨x_8, ex_8⟩ : ∃ y_ : Int32, y_ = (i_2 + (-1 : Int32)) := ⟨_, rfl⟩
          replace vc := vc x_8 ex_8
          refine lv_iinc (v := x_8) (lv' := [(3, .int x_8), (2, .int i_3), (5, .int (0 : Int32)), (4, .int x_4), (0, .ref h_this), (1, .int p0)]) hx hb dX9_leastPick_105 hl (k := 5) rfl (by rw [ex_8]; rfl) (by decide) rfl (fun ls hl => ?_)
          refine lv_goto (tgt := 6) hx hb dX9_leastPick_108 (by decide) ?_
          obtain ⟨n1_, hlt_, hi_⟩ := vc
          exact ih_1 n1_ (x_8, i_3) hlt_ hi_ _ _ hP hD hS ls (lv_sub hl [4, 5, 1, 0] rfl)
        · replace vc := vc.2 c_
          refine lv_bipush (v := (10 : Int32)) hx hb dX9_leastPick_94 (by decide) ?_
          refine lv_iload_n hx hb dX9_leastPick_96 rfl (lv_at hl 5 rfl) ?_
          refine lv_imul hx hb dX9_leastPick_97 ?_
          refine lv_iconst (v := (1 : Int32)) hx hb dX9_leastPick_98 (by decide) ?_
          refine lv_iadd hx hb dX9_leastPick_99 ?_
          refine lv_goto (tgt := 104) hx hb dX9_leastPick_100 (by decide) ?_
          refine lv_topi (fun x_9 ex_9 => ?_)
          replace vc := vc x_9 ex_9
          refine lv_istore_n (lv' := [(2, .int x_9), (5, .int (0 : Int32)), (4, .int x_4), (0, .ref h_this), (1, .int p0), (3, .int i_2)]) hx hb dX9_leastPick_104 rfl hl (by decide) rfl (fun ls hl => ?_)
          obtain ⟨x_10, ex_10⟩ : ∃ y_ : Int32, y_ = (i_2 + (-1 : Int32)) := ⟨_, rfl⟩
          replace vc := vc x_10 ex_10
          refine lv_iinc (v := x_10) (lv' := [(3, .int x_10), (2, .int x_9), (5, .int (0 : Int32)), (4, .int x_4), (0, .ref h_this), (1, .int p0)]) hx hb dX9_leastPick_105 hl (k := 5) rfl (by rw [ex_10]; rfl) (by decide) rfl (fun ls hl => ?_)
          refine lv_goto (tgt := 6) hx hb dX9_leastPick_108 (by decide) ?_
          obtain ⟨n1_, hlt_, hi_⟩ := vc
          exact ih_1 n1_ (x_10, x_9) hlt_ hi_ _ _ hP hD hS ls (lv_sub hl [4, 5, 1, 0] rfl)
    · replace vc := vc.2 c_
      refine lv_iload_n hx hb dX9_leastPick_21 rfl (lv_at hl 2 rfl) ?_
      refine lv_iload hx hb dX9_leastPick_22 (lv_at hl 0 rfl) ?_
      refine lv_iand hx hb dX9_leastPick_24 ?_
      refine lv_iload hx hb dX9_leastPick_25 (lv_at hl 0 rfl) ?_
      refine lv_icmp_ne (tgt := 34) hx hb dX9_leastPick_27 (by decide) (fun c_ => ?_) (fun c_ => ?_)
      · replace vc := vc.1 c_
        refine lv_iconst (v := (0 : Int32)) hx hb dX9_leastPick_34 (by decide) ?_
        refine lv_istore (lv' := [(5, .int (0 : Int32)), (4, .int x_4), (0, .ref h_this), (1, .int p0), (2, .int i_3), (3, .int i_2)]) hx hb dX9_leastPick_35 hl (by decide) rfl (fun ls hl => ?_)
        refine lv_iload hx hb dX9_leastPick_37 (lv_at hl 0 rfl) ?_
        refine lv_if_eq (tgt := 69) hx hb dX9_leastPick_39 (by decide) (fun _ => ?_) (fun c_ => absurd c_ (by decide))
        refine lv_iload_n hx hb dX9_leastPick_69 rfl (lv_at hl 4 rfl) ?_
        refine lv_istore_n (lv' := [(2, .int i_3), (5, .int (0 : Int32)), (4, .int x_4), (0, .ref h_this), (1, .int p0), (3, .int i_2)]) hx hb dX9_leastPick_70 rfl hl (by decide) rfl (fun ls hl => ?_)
        refine lv_iload_n hx hb dX9_leastPick_71 rfl (lv_at hl 4 rfl) ?_
        refine lv_iload_n hx hb dX9_leastPick_72 rfl (lv_at hl 5 rfl) ?_
        refine kj0_i (rest := []) (kS ⟨hx, hb, hml, hown, hts⟩ (kX9_has _ p0 i_2 vc.1) (va_cwS 2 hts gX9_leastPick_X9_has rfl rfl rfl (by decide +kernel) ⟨(Nat.le_of_ble_eq_true rfl), (Nat.le_of_ble_eq_true rfl)⟩) hK rfl rfl hl.1 (Nat.le_of_ble_eq_true rfl) dX9_leastPick_73 ⟨(Nat.le_of_ble_eq_true rfl), (Nat.le_of_ble_eq_true rfl)⟩) hP hS hA (fun r_11 H locs hq_ hP hS => ?_)
        replace vc := vc.2 r_11 hq_
        have hP : va_P D vwCl [(h_this, .inr (9, [.int v_present, .ref h_this_wool, .ref h_this_stitches, .ref h_this_place, .int v_chest, .int v_years, .ref h_this_sightSundays, .ref h_this_sightWool, .int v_sights, .ref h_this_pad, .int v_padMany, .ref h_this_act, .ref h_this_which, .ref h_this_much, .int v_acts, .int v_sweptMany, .ref h_this_had, .int v_badAct, .int v_badWhy, .int v_sweptAct, .int v_sweptWhich, .ref h_this_rows, .ref h_this_groups, .ref h_this_covers, .ref h_this_byWool, .ref h_this_wins, .ref h_this_kept, .ref h_this_isKept, .int v_keptAt, .int v_isWriting])), (h_this_wins, .inl (cZ, 256, .inl v_wins))] H := hP
        refine lv_if_eq (tgt := 103) hx hb dX9_leastPick_76 (by decide) (fun c_ => ?_) (fun c_ => ?_)
        · replace vc := vc.1 c_
          refine lv_iload_n hx hb dX9_leastPick_103 rfl (lv_at hl 0 rfl) ?_
          refine lv_istore_n (lv' := [(2, .int i_3), (5, .int (0 : Int32)), (4, .int x_4), (0, .ref h_this), (1, .int p0), (3, .int i_2)]) hx hb dX9_leastPick_104 rfl hl (by decide) rfl (fun ls hl => ?_)
          obtain ⟨x_12, ex_12⟩ : ∃ y_ : Int32, y_ = (i_2 + (-1 : Int32)) := ⟨_, rfl⟩
          replace vc := vc x_12 ex_12
          refine lv_iinc (v := x_12) (lv' := [(3, .int x_12), (2, .int i_3), (5, .int (0 : Int32)), (4, .int x_4), (0, .ref h_this), (1, .int p0)]) hx hb dX9_leastPick_105 hl (k := 5) rfl (by rw [ex_12]; rfl) (by decide) rfl (fun ls hl => ?_)
          refine lv_goto (tgt := 6) hx hb dX9_leastPick_108 (by decide) ?_
          obtain ⟨n1_, hlt_, hi_⟩ := vc
          exact ih_1 n1_ (x_12, i_3) hlt_ hi_ _ _ hP hD hS ls (lv_sub hl [4, 5, 1, 0] rfl)
        · replace vc := vc.2 c_
          refine lv_aload_n hx hb dX9_leastPick_79 rfl (lv_at hl 3 rfl) ?_
          refine va_get (D := D) (ci := 9) (v := .ref h_this_wins) (C := RX9) (T := TX9) (N := 30) hx hb hts mcX9_leastPick_X9 hown hK.1 hP 0 rfl rfl 25 (by decide) (hts _ mwX9_leastPick_1) (fun _ h9 => h9) rfl dX9_leastPick_80 ?_
          refine lv_iload_n hx hb dX9_leastPick_83 rfl (lv_at hl 4 rfl) ?_
          refine lv_iconst (v := (1 : Int32)) hx hb dX9_leastPick_84 (by decide) ?_
          refine lv_iload_n hx hb dX9_leastPick_85 rfl (lv_at hl 5 rfl) ?_
          refine lv_ishl hx hb dX9_leastPick_86 ?_
          refine lv_iconst (v := (-1 : Int32)) hx hb dX9_leastPick_87 (by decide) ?_
          refine lv_ixor hx hb dX9_leastPick_88 ?_
          refine lv_iand hx hb dX9_leastPick_89 ?_
          have hi_13 := vc.1
          replace vc := vc.2
          refine va_zald hx hb hK.1 hP 1 1 rfl rfl hi_13 dX9_leastPick_90 ?_
          refine lv_if_ne (tgt := 103) hx hb dX9_leastPick_91 (by decide) (fun c_ => ?_) (fun c_ => ?_)
          · replace vc := vc.1 c_
            refine lv_iload_n hx hb dX9_leastPick_103 rfl (lv_at hl 0 rfl) ?_
            refine lv_istore_n (lv' := [(2, .int i_3), (5, .int (0 : Int32)), (4, .int x_4), (0, .ref h_this), (1, .int p0), (3, .int i_2)]) hx hb dX9_leastPick_104 rfl hl (by decide) rfl (fun ls hl => ?_)
            obtain ⟨x_14, ex_14⟩ : ∃ y_ : Int32, y_ = (i_2 + (-1 : Int32)) := ⟨_, rfl⟩
            replace vc := vc x_14 ex_14
            refine lv_iinc (v := x_14) (lv' := [(3, .int x_14), (2, .int i_3), (5, .int (0 : Int32)), (4, .int x_4), (0, .ref h_this), (1, .int p0)]) hx hb dX9_leastPick_105 hl (k := 5) rfl (by rw [ex_14]; rfl) (by decide) rfl (fun ls hl => ?_)
            refine lv_goto (tgt := 6) hx hb dX9_leastPick_108 (by decide) ?_
            obtain ⟨n1_, hlt_, hi_⟩ := vc
            exact ih_1 n1_ (x_14, i_3) hlt_ hi_ _ _ hP hD hS ls (lv_sub hl [4, 5, 1, 0] rfl)
          · replace vc := vc.2 c_
            refine lv_bipush (v := (10 : Int32)) hx hb dX9_leastPick_94 (by decide) ?_
            refine lv_iload_n hx hb dX9_leastPick_96 rfl (lv_at hl 5 rfl) ?_
            refine lv_imul hx hb dX9_leastPick_97 ?_
            refine lv_iconst (v := (1 : Int32)) hx hb dX9_leastPick_98 (by decide) ?_
            refine lv_iadd hx hb dX9_leastPick_99 ?_
            refine lv_goto (tgt := 104) hx hb dX9_leastPick_100 (by decide) ?_
            refine lv_topi (fun x_15 ex_15 => ?_)
            replace vc := vc x_15 ex_15
            refine lv_istore_n (lv' := [(2, .int x_15), (5, .int (0 : Int32)), (4, .int x_4), (0, .ref h_this), (1, .int p0), (3, .int i_2)]) hx hb dX9_leastPick_104 rfl hl (by decide) rfl (fun ls hl => ?_)
            obtain ⟨x_16, ex_16⟩ : ∃ y_ : Int32, y_ = (i_2 + (-1 : Int32)) := ⟨_, rfl⟩
            replace vc := vc x_16 ex_16
            refine lv_iinc (v := x_16) (lv' := [(3, .int x_16), (2, .int x_15), (5, .int (0 : Int32)), (4, .int x_4), (0, .ref h_this), (1, .int p0)]) hx hb dX9_leastPick_105 hl (k := 5) rfl (by rw [ex_16]; rfl) (by decide) rfl (fun ls hl => ?_)
            refine lv_goto (tgt := 6) hx hb dX9_leastPick_108 (by decide) ?_
            obtain ⟨n1_, hlt_, hi_⟩ := vc
            exact ih_1 n1_ (x_16, x_15) hlt_ hi_ _ _ hP hD hS ls (lv_sub hl [4, 5, 1, 0] rfl)
      · replace vc := vc.2 c_
        refine lv_iconst (v := (1 : Int32)) hx hb dX9_leastPick_30 (by decide) ?_
        refine lv_goto (tgt := 35) hx hb dX9_leastPick_31 (by decide) ?_
        refine lv_istore (lv' := [(5, .int (1 : Int32)), (4, .int x_4), (0, .ref h_this), (1, .int p0), (2, .int i_3), (3, .int i_2)]) hx hb dX9_leastPick_35 hl (by decide) rfl (fun ls hl => ?_)
        refine lv_iload hx hb dX9_leastPick_37 (lv_at hl 0 rfl) ?_
        refine lv_if_eq (tgt := 69) hx hb dX9_leastPick_39 (by decide) (fun c_ => absurd c_ (by decide)) (fun _ => ?_)
        refine lv_aload_n hx hb dX9_leastPick_42 rfl (lv_at hl 2 rfl) ?_
        refine va_get (D := D) (ci := 9) (v := .ref h_this_wins) (C := RX9) (T := TX9) (N := 30) hx hb hts mcX9_leastPick_X9 hown hK.1 hP 0 rfl rfl 25 (by decide) (hts _ mwX9_leastPick_1) (fun _ h9 => h9) rfl dX9_leastPick_43 ?_
        refine lv_iload_n hx hb dX9_leastPick_46 rfl (lv_at hl 3 rfl) ?_
        refine lv_iload hx hb dX9_leastPick_47 (lv_at hl 1 rfl) ?_
        refine lv_iconst (v := (-1 : Int32)) hx hb dX9_leastPick_49 (by decide) ?_
        refine lv_ixor hx hb dX9_leastPick_50 ?_
        refine lv_iand hx hb dX9_leastPick_51 ?_
        refine lv_sipush (v := (255 : Int32)) hx hb dX9_leastPick_52 (by decide) ?_
        refine lv_iand hx hb dX9_leastPick_55 ?_
        have hi_17 := vc.1
        replace vc := vc.2
        refine va_zald hx hb hK.1 hP 1 1 rfl rfl hi_17 dX9_leastPick_56 ?_
        refine lv_if_ne (tgt := 69) hx hb dX9_leastPick_57 (by decide) (fun c_ => ?_) (fun c_ => ?_)
        · replace vc := vc.1 c_
          refine lv_iload_n hx hb dX9_leastPick_69 rfl (lv_at hl 4 rfl) ?_
          refine lv_istore_n (lv' := [(2, .int i_3), (5, .int (1 : Int32)), (4, .int x_4), (0, .ref h_this), (1, .int p0), (3, .int i_2)]) hx hb dX9_leastPick_70 rfl hl (by decide) rfl (fun ls hl => ?_)
          refine lv_iload_n hx hb dX9_leastPick_71 rfl (lv_at hl 4 rfl) ?_
          refine lv_iload_n hx hb dX9_leastPick_72 rfl (lv_at hl 5 rfl) ?_
          refine kj0_i (rest := []) (kS ⟨hx, hb, hml, hown, hts⟩ (kX9_has _ p0 i_2 vc.1) (va_cwS 2 hts gX9_leastPick_X9_has rfl rfl rfl (by decide +kernel) ⟨(Nat.le_of_ble_eq_true rfl), (Nat.le_of_ble_eq_true rfl)⟩) hK rfl rfl hl.1 (Nat.le_of_ble_eq_true rfl) dX9_leastPick_73 ⟨(Nat.le_of_ble_eq_true rfl), (Nat.le_of_ble_eq_true rfl)⟩) hP hS hA (fun r_18 H locs hq_ hP hS => ?_)
          replace vc := vc.2 r_18 hq_
          have hP : va_P D vwCl [(h_this, .inr (9, [.int v_present, .ref h_this_wool, .ref h_this_stitches, .ref h_this_place, .int v_chest, .int v_years, .ref h_this_sightSundays, .ref h_this_sightWool, .int v_sights, .ref h_this_pad, .int v_padMany, .ref h_this_act, .ref h_this_which, .ref h_this_much, .int v_acts, .int v_sweptMany, .ref h_this_had, .int v_badAct, .int v_badWhy, .int v_sweptAct, .int v_sweptWhich, .ref h_this_rows, .ref h_this_groups, .ref h_this_covers, .ref h_this_byWool, .ref h_this_wins, .ref h_this_kept, .ref h_this_isKept, .int v_keptAt, .int v_isWriting])), (h_this_wins, .inl (cZ, 256, .inl v_wins))] H := hP
          refine lv_if_eq (tgt := 103) hx hb dX9_leastPick_76 (by decide) (fun c_ => ?_) (fun c_ => ?_)
          · replace vc := vc.1 c_
            refine lv_iload_n hx hb dX9_leastPick_103 rfl (lv_at hl 0 rfl) ?_
            refine lv_istore_n (lv' := [(2, .int i_3), (5, .int (1 : Int32)), (4, .int x_4), (0, .ref h_this), (1, .int p0), (3, .int i_2)]) hx hb dX9_leastPick_104 rfl hl (by decide) rfl (fun ls hl => ?_)
            obtain ⟨x_19, ex_19⟩ : ∃ y_ : Int32, y_ = (i_2 + (-1 : Int32)) := ⟨_, rfl⟩
            replace vc := vc x_19 ex_19
            refine lv_iinc (v := x_19) (lv' := [(3, .int x_19), (2, .int i_3), (5, .int (1 : Int32)), (4, .int x_4), (0, .ref h_this), (1, .int p0)]) hx hb dX9_leastPick_105 hl (k := 5) rfl (by rw [ex_19]; rfl) (by decide) rfl (fun ls hl => ?_)
            refine lv_goto (tgt := 6) hx hb dX9_leastPick_108 (by decide) ?_
            obtain ⟨n1_, hlt_, hi_⟩ := vc
            exact ih_1 n1_ (x_19, i_3) hlt_ hi_ _ _ hP hD hS ls (lv_sub hl [4, 5, 1, 0] rfl)
          · replace vc := vc.2 c_
            refine lv_aload_n hx hb dX9_leastPick_79 rfl (lv_at hl 3 rfl) ?_
            refine va_get (D := D) (ci := 9) (v := .ref h_this_wins) (C := RX9) (T := TX9) (N := 30) hx hb hts mcX9_leastPick_X9 hown hK.1 hP 0 rfl rfl 25 (by decide) (hts _ mwX9_leastPick_1) (fun _ h9 => h9) rfl dX9_leastPick_80 ?_
            refine lv_iload_n hx hb dX9_leastPick_83 rfl (lv_at hl 4 rfl) ?_
            refine lv_iconst (v := (1 : Int32)) hx hb dX9_leastPick_84 (by decide) ?_
            refine lv_iload_n hx hb dX9_leastPick_85 rfl (lv_at hl 5 rfl) ?_
            refine lv_ishl hx hb dX9_leastPick_86 ?_
            refine lv_iconst (v := (-1 : Int32)) hx hb dX9_leastPick_87 (by decide) ?_
            refine lv_ixor hx hb dX9_leastPick_88 ?_
            refine lv_iand hx hb dX9_leastPick_89 ?_
            have hi_20 := vc.1
            replace vc := vc.2
            refine va_zald hx hb hK.1 hP 1 1 rfl rfl hi_20 dX9_leastPick_90 ?_
            refine lv_if_ne (tgt := 103) hx hb dX9_leastPick_91 (by decide) (fun c_ => ?_) (fun c_ => ?_)
            · replace vc := vc.1 c_
              refine lv_iload_n hx hb dX9_leastPick_103 rfl (lv_at hl 0 rfl) ?_
              refine lv_istore_n (lv' := [(2, .int i_3), (5, .int (1 : Int32)), (4, .int x_4), (0, .ref h_this), (1, .int p0), (3, .int i_2)]) hx hb dX9_leastPick_104 rfl hl (by decide) rfl (fun ls hl => ?_)
              obtain ⟨x_21, ex_21⟩ : ∃ y_ : Int32, y_ = (i_2 + (-1 : Int32)) := ⟨_, rfl⟩
              replace vc := vc x_21 ex_21
              refine lv_iinc (v := x_21) (lv' := [(3, .int x_21), (2, .int i_3), (5, .int (1 : Int32)), (4, .int x_4), (0, .ref h_this), (1, .int p0)]) hx hb dX9_leastPick_105 hl (k := 5) rfl (by rw [ex_21]; rfl) (by decide) rfl (fun ls hl => ?_)
              refine lv_goto (tgt := 6) hx hb dX9_leastPick_108 (by decide) ?_
              obtain ⟨n1_, hlt_, hi_⟩ := vc
              exact ih_1 n1_ (x_21, i_3) hlt_ hi_ _ _ hP hD hS ls (lv_sub hl [4, 5, 1, 0] rfl)
            · replace vc := vc.2 c_
              refine lv_bipush (v := (10 : Int32)) hx hb dX9_leastPick_94 (by decide) ?_
              refine lv_iload_n hx hb dX9_leastPick_96 rfl (lv_at hl 5 rfl) ?_
              refine lv_imul hx hb dX9_leastPick_97 ?_
              refine lv_iconst (v := (1 : Int32)) hx hb dX9_leastPick_98 (by decide) ?_
              refine lv_iadd hx hb dX9_leastPick_99 ?_
              refine lv_goto (tgt := 104) hx hb dX9_leastPick_100 (by decide) ?_
              refine lv_topi (fun x_22 ex_22 => ?_)
              replace vc := vc x_22 ex_22
              refine lv_istore_n (lv' := [(2, .int x_22), (5, .int (1 : Int32)), (4, .int x_4), (0, .ref h_this), (1, .int p0), (3, .int i_2)]) hx hb dX9_leastPick_104 rfl hl (by decide) rfl (fun ls hl => ?_)
              obtain ⟨x_23, ex_23⟩ : ∃ y_ : Int32, y_ = (i_2 + (-1 : Int32)) := ⟨_, rfl⟩
              replace vc := vc x_23 ex_23
              refine lv_iinc (v := x_23) (lv' := [(3, .int x_23), (2, .int x_22), (5, .int (1 : Int32)), (4, .int x_4), (0, .ref h_this), (1, .int p0)]) hx hb dX9_leastPick_105 hl (k := 5) rfl (by rw [ex_23]; rfl) (by decide) rfl (fun ls hl => ?_)
              refine lv_goto (tgt := 6) hx hb dX9_leastPick_108 (by decide) ?_
              obtain ⟨n1_, hlt_, hi_⟩ := vc
              exact ih_1 n1_ (x_23, x_22) hlt_ hi_ _ _ hP hD hS ls (lv_sub hl [4, 5, 1, 0] rfl)
        · replace vc := vc.2 c_
          refine lv_bipush (v := (10 : Int32)) hx hb dX9_leastPick_60 (by decide) ?_
          refine lv_iload_n hx hb dX9_leastPick_62 rfl (lv_at hl 5 rfl) ?_
          refine lv_imul hx hb dX9_leastPick_63 ?_
          refine lv_iconst (v := (2 : Int32)) hx hb dX9_leastPick_64 (by decide) ?_
          refine lv_iadd hx hb dX9_leastPick_65 ?_
          refine lv_goto (tgt := 70) hx hb dX9_leastPick_66 (by decide) ?_
          refine lv_topi (fun x_24 ex_24 => ?_)
          replace vc := vc x_24 ex_24
          refine lv_istore_n (lv' := [(2, .int x_24), (5, .int (1 : Int32)), (4, .int x_4), (0, .ref h_this), (1, .int p0), (3, .int i_2)]) hx hb dX9_leastPick_70 rfl hl (by decide) rfl (fun ls hl => ?_)
          refine lv_iload_n hx hb dX9_leastPick_71 rfl (lv_at hl 4 rfl) ?_
          refine lv_iload_n hx hb dX9_leastPick_72 rfl (lv_at hl 5 rfl) ?_
          refine kj0_i (rest := []) (kS ⟨hx, hb, hml, hown, hts⟩ (kX9_has _ p0 i_2 vc.1) (va_cwS 2 hts gX9_leastPick_X9_has rfl rfl rfl (by decide +kernel) ⟨(Nat.le_of_ble_eq_true rfl), (Nat.le_of_ble_eq_true rfl)⟩) hK rfl rfl hl.1 (Nat.le_of_ble_eq_true rfl) dX9_leastPick_73 ⟨(Nat.le_of_ble_eq_true rfl), (Nat.le_of_ble_eq_true rfl)⟩) hP hS hA (fun r_25 H locs hq_ hP hS => ?_)
          replace vc := vc.2 r_25 hq_
          have hP : va_P D vwCl [(h_this, .inr (9, [.int v_present, .ref h_this_wool, .ref h_this_stitches, .ref h_this_place, .int v_chest, .int v_years, .ref h_this_sightSundays, .ref h_this_sightWool, .int v_sights, .ref h_this_pad, .int v_padMany, .ref h_this_act, .ref h_this_which, .ref h_this_much, .int v_acts, .int v_sweptMany, .ref h_this_had, .int v_badAct, .int v_badWhy, .int v_sweptAct, .int v_sweptWhich, .ref h_this_rows, .ref h_this_groups, .ref h_this_covers, .ref h_this_byWool, .ref h_this_wins, .ref h_this_kept, .ref h_this_isKept, .int v_keptAt, .int v_isWriting])), (h_this_wins, .inl (cZ, 256, .inl v_wins))] H := hP
          refine lv_if_eq (tgt := 103) hx hb dX9_leastPick_76 (by decide) (fun c_ => ?_) (fun c_ => ?_)
          · replace vc := vc.1 c_
            refine lv_iload_n hx hb dX9_leastPick_103 rfl (lv_at hl 0 rfl) ?_
            refine lv_istore_n (lv' := [(2, .int x_24), (5, .int (1 : Int32)), (4, .int x_4), (0, .ref h_this), (1, .int p0), (3, .int i_2)]) hx hb dX9_leastPick_104 rfl hl (by decide) rfl (fun ls hl => ?_)
            obtain ⟨x_26, ex_26⟩ : ∃ y_ : Int32, y_ = (i_2 + (-1 : Int32)) := ⟨_, rfl⟩
            replace vc := vc x_26 ex_26
            refine lv_iinc (v := x_26) (lv' := [(3, .int x_26), (2, .int x_24), (5, .int (1 : Int32)), (4, .int x_4), (0, .ref h_this), (1, .int p0)]) hx hb dX9_leastPick_105 hl (k := 5) rfl (by rw [ex_26]; rfl) (by decide) rfl (fun ls hl => ?_)
            refine lv_goto (tgt := 6) hx hb dX9_leastPick_108 (by decide) ?_
            obtain ⟨n1_, hlt_, hi_⟩ := vc
            exact ih_1 n1_ (x_26, x_24) hlt_ hi_ _ _ hP hD hS ls (lv_sub hl [4, 5, 1, 0] rfl)
          · replace vc := vc.2 c_
            refine lv_aload_n hx hb dX9_leastPick_79 rfl (lv_at hl 3 rfl) ?_
            refine va_get (D := D) (ci := 9) (v := .ref h_this_wins) (C := RX9) (T := TX9) (N := 30) hx hb hts mcX9_leastPick_X9 hown hK.1 hP 0 rfl rfl 25 (by decide) (hts _ mwX9_leastPick_1) (fun _ h9 => h9) rfl dX9_leastPick_80 ?_
            refine lv_iload_n hx hb dX9_leastPick_83 rfl (lv_at hl 4 rfl) ?_
            refine lv_iconst (v := (1 : Int32)) hx hb dX9_leastPick_84 (by decide) ?_
            refine lv_iload_n hx hb dX9_leastPick_85 rfl (lv_at hl 5 rfl) ?_
            refine lv_ishl hx hb dX9_leastPick_86 ?_
            refine lv_iconst (v := (-1 : Int32)) hx hb dX9_leastPick_87 (by decide) ?_
            refine lv_ixor hx hb dX9_leastPick_88 ?_
            refine lv_iand hx hb dX9_leastPick_89 ?_
            have hi_27 := vc.1
            replace vc := vc.2
            refine va_zald hx hb hK.1 hP 1 1 rfl rfl hi_27 dX9_leastPick_90 ?_
            refine lv_if_ne (tgt := 103) hx hb dX9_leastPick_91 (by decide) (fun c_ => ?_) (fun c_ => ?_)
            · replace vc := vc.1 c_
              refine lv_iload_n hx hb dX9_leastPick_103 rfl (lv_at hl 0 rfl) ?_
              refine lv_istore_n (lv' := [(2, .int x_24), (5, .int (1 : Int32)), (4, .int x_4), (0, .ref h_this), (1, .int p0), (3, .int i_2)]) hx hb dX9_leastPick_104 rfl hl (by decide) rfl (fun ls hl => ?_)
              obtain ⟨x_28, ex_28⟩ : ∃ y_ : Int32, y_ = (i_2 + (-1 : Int32)) := ⟨_, rfl⟩
              replace vc := vc x_28 ex_28
              refine lv_iinc (v := x_28) (lv' := [(3, .int x_28), (2, .int x_24), (5, .int (1 : Int32)), (4, .int x_4), (0, .ref h_this), (1, .int p0)]) hx hb dX9_leastPick_105 hl (k := 5) rfl (by rw [ex_28]; rfl) (by decide) rfl (fun ls hl => ?_)
              refine lv_goto (tgt := 6) hx hb dX9_leastPick_108 (by decide) ?_
              obtain ⟨n1_, hlt_, hi_⟩ := vc
              exact ih_1 n1_ (x_28, x_24) hlt_ hi_ _ _ hP hD hS ls (lv_sub hl [4, 5, 1, 0] rfl)
            · replace vc := vc.2 c_
              refine lv_bipush (v := (10 : Int32)) hx hb dX9_leastPick_94 (by decide) ?_
              refine lv_iload_n hx hb dX9_leastPick_96 rfl (lv_at hl 5 rfl) ?_
              refine lv_imul hx hb dX9_leastPick_97 ?_
              refine lv_iconst (v := (1 : Int32)) hx hb dX9_leastPick_98 (by decide) ?_
              refine lv_iadd hx hb dX9_leastPick_99 ?_
              refine lv_goto (tgt := 104) hx hb dX9_leastPick_100 (by decide) ?_
              refine lv_topi (fun x_29 ex_29 => ?_)
              replace vc := vc x_29 ex_29
              refine lv_istore_n (lv' := [(2, .int x_29), (5, .int (1 : Int32)), (4, .int x_4), (0, .ref h_this), (1, .int p0), (3, .int i_2)]) hx hb dX9_leastPick_104 rfl hl (by decide) rfl (fun ls hl => ?_)
              obtain ⟨x_30, ex_30⟩ : ∃ y_ : Int32, y_ = (i_2 + (-1 : Int32)) := ⟨_, rfl⟩
              replace vc := vc x_30 ex_30
              refine lv_iinc (v := x_30) (lv' := [(3, .int x_30), (2, .int x_29), (5, .int (1 : Int32)), (4, .int x_4), (0, .ref h_this), (1, .int p0)]) hx hb dX9_leastPick_105 hl (k := 5) rfl (by rw [ex_30]; rfl) (by decide) rfl (fun ls hl => ?_)
              refine lv_goto (tgt := 6) hx hb dX9_leastPick_108 (by decide) ?_
              obtain ⟨n1_, hlt_, hi_⟩ := vc
              exact ih_1 n1_ (x_30, x_29) hlt_ hi_ _ _ hP hD hS ls (lv_sub hl [4, 5, 1, 0] rfl)

theorem mwX9_unpick_1 : Cond.fieldLink RX9 62 "HassockSeeModel" "present" "I" ∈ wsX9_unpick := List.mem_of_getElem? (i := 1) rfl
theorem mwX9_unpick_2 : Cond.fieldLink RX9 13 "HassockSeeModel" "stitches" "[I" ∈ wsX9_unpick := List.mem_of_getElem? (i := 2) rfl
theorem mwX9_unpick_3 : Cond.fieldLink RX9 53 "HassockSeeModel" "wins" "[Z" ∈ wsX9_unpick := List.mem_of_getElem? (i := 3) rfl
theorem mcX9_unpick_X9 : ∀ w ∈ u_ws RX9 TX9 30, w ∈ wsX9_unpick := fun _ h => (List.mem_cons_of_mem _ (List.mem_append_right _ h))
def KX9_unpick (l : Launch) (D : va_G) (cI cZ : ClassId) (P : Int32 → Int32 → Int32 → (Nat → Int32) → (Nat → Int32) → Prop) (Q : Int32 → Int32 → Int32 → (Nat → Int32) → (Nat → Int32) → Int32 → (Nat → Int32) → Prop) : Prop := ∀ (sz : Nat) (h_this h_this_wool h_this_stitches h_this_place h_this_sightSundays h_this_sightWool h_this_pad h_this_act h_this_which h_this_much h_this_had h_this_rows h_this_groups h_this_covers h_this_byWool h_this_wins h_this_kept h_this_isKept : Nat) (p0 : Int32) (p1 : Int32) (v_present : Int32) (v_chest : Int32) (v_years : Int32) (v_sights : Int32) (v_padMany : Int32) (v_acts : Int32) (v_sweptMany : Int32) (v_badAct : Int32) (v_badWhy : Int32) (v_sweptAct : Int32) (v_sweptWhich : Int32) (v_keptAt : Int32) (v_isWriting : Int32) (v_stitches : (Nat → Int32)) (v_wins : (Nat → Int32)), P p0 p1 v_present v_stitches v_wins → MI l yX9_unpick wsX9_unpick ({ frames := 2, cells := 0, slots := 0, locals := 46 }) [.ref h_this, .int p0, .int p1] D cI cZ sz [(h_this, .inr (9, [.int v_present, .ref h_this_wool, .ref h_this_stitches, .ref h_this_place, .int v_chest, .int v_years, .ref h_this_sightSundays, .ref h_this_sightWool, .int v_sights, .ref h_this_pad, .int v_padMany, .ref h_this_act, .ref h_this_which, .ref h_this_much, .int v_acts, .int v_sweptMany, .ref h_this_had, .int v_badAct, .int v_badWhy, .int v_sweptAct, .int v_sweptWhich, .ref h_this_rows, .ref h_this_groups, .ref h_this_covers, .ref h_this_byWool, .ref h_this_wins, .ref h_this_kept, .ref h_this_isKept, .int v_keptAt, .int v_isWriting])), (h_this_stitches, .inl (cI, 10, .inl v_stitches)), (h_this_wins, .inl (cZ, 256, .inl v_wins))] (fun r (u : (Nat → Int32)) => Q p0 p1 v_present v_stitches v_wins r u) (fun u => [(h_this, .inr (9, [.int v_present, .ref h_this_wool, .ref h_this_stitches, .ref h_this_place, .int v_chest, .int v_years, .ref h_this_sightSundays, .ref h_this_sightWool, .int v_sights, .ref h_this_pad, .int v_padMany, .ref h_this_act, .ref h_this_which, .ref h_this_much, .int v_acts, .int v_sweptMany, .ref h_this_had, .int v_badAct, .int v_badWhy, .int v_sweptAct, .int v_sweptWhich, .ref h_this_rows, .ref h_this_groups, .ref h_this_covers, .ref h_this_byWool, .ref h_this_wins, .ref h_this_kept, .ref h_this_isKept, .int v_keptAt, .int v_isWriting])), (h_this_stitches, .inl (cI, 10, .inl v_stitches)), (h_this_wins, .inl (cZ, 256, .inl u))]) 0 0
set_option maxHeartbeats 4000000 in
set_option maxRecDepth 100000 in
theorem walkX9_unpick {l : Launch} {D : va_G} {cI cZ : ClassId} {PX9_unpick : Int32 → Int32 → Int32 → (Nat → Int32) → (Nat → Int32) → Prop} {QX9_unpick : Int32 → Int32 → Int32 → (Nat → Int32) → (Nat → Int32) → Int32 → (Nat → Int32) → Prop} {PX9_isHassock : Int32 → Prop} {QX9_isHassock : Int32 → Int32 → Prop} {PX9_has : Int32 → Int32 → Prop} {QX9_has : Int32 → Int32 → Int32 → Prop} {PX9_in : Int64 → Int64 → Int64 → Prop} {QX9_in : Int64 → Int64 → Int64 → Int32 → Prop} {PX9_leastPick : Int32 → (Nat → Int32) → Prop} {QX9_leastPick : Int32 → (Nat → Int32) → Int32 → Prop} (kX9_isHassock : KX9_isHassock l D cI cZ PX9_isHassock QX9_isHassock) (kX9_has : KX9_has l D cI cZ PX9_has QX9_has) (kX9_in : KX9_in l D cI cZ PX9_in QX9_in) (kX9_leastPick : KX9_leastPick l D cI cZ PX9_leastPick QX9_leastPick) (IX9_unpick_43 : Int32 → Int32 → Int32 → (Nat → Int32) → (Nat → Int32) → Nat → Int32 → Int32 → Int32 → (Nat → Int32) → Prop) (hvc : ∀ (p0 : Int32) (p1 : Int32) (v_present : Int32) (v_stitches : (Nat → Int32)) (v_wins : (Nat → Int32)), PX9_unpick p0 p1 v_present v_stitches v_wins → (PX9_isHassock p0 ∧ (∀ r_1 : Int32, QX9_isHassock p0 r_1 → ((r_1 = 0 → (QX9_unpick p0 p1 v_present v_stitches v_wins (-1 : Int32) v_wins)) ∧ (¬ r_1 = 0 → (PX9_has v_present p0 ∧ (∀ r_2 : Int32, QX9_has v_present p0 r_2 → ((¬ r_2 = 0 → (PX9_in (p1.toInt64) (0 : Int64) (1 : Int64) ∧ (∀ r_3 : Int32, QX9_in (p1.toInt64) (0 : Int64) (1 : Int64) r_3 → ((¬ r_3 = 0 → (vp_in p0 10 ∧ (∀ x_5 : Int32, x_5 = (v_stitches (p0).toNatClampNeg) → ((∃ n0 : Nat, IX9_unpick_43 p0 p1 v_present v_stitches v_wins n0 p1 x_5 (0 : Int32) v_wins) ∧ (∀ (n_6 : Nat) (i_7 : Int32) (f_8 : (Nat → Int32)), (IX9_unpick_43 p0 p1 v_present v_stitches v_wins n_6 p1 x_5 i_7 f_8 → ((x_5 < i_7 → ((¬ p1 = (1 : Int32) → (vp_in x_5 256 ∧ (((f_8 (x_5).toNatClampNeg) = 0 → (QX9_unpick p0 p1 v_present v_stitches v_wins (0 : Int32) f_8)) ∧ (¬ (f_8 (x_5).toNatClampNeg) = 0 → (QX9_unpick p0 p1 v_present v_stitches v_wins (1 : Int32) f_8))))) ∧ (p1 = (1 : Int32) → (PX9_leastPick x_5 f_8 ∧ (∀ (r_10 : Int32), QX9_leastPick x_5 f_8 r_10  → (QX9_unpick p0 p1 v_present v_stitches v_wins r_10 f_8)))))) ∧ (¬ x_5 < i_7 → (PX9_leastPick i_7 f_8 ∧ (∀ (r_11 : Int32), QX9_leastPick i_7 f_8 r_11  → ((r_11 < 0 → (vp_in i_7 256 ∧ (∀ x_13 : Int32, x_13 = (i_7 + (1 : Int32)) → (∃ n1 : Nat, n1 < n_6 ∧ IX9_unpick_43 p0 p1 v_present v_stitches v_wins n1 p1 x_5 x_13 (upd f_8 (i_7).toNatClampNeg (vp_nar .boolean (0 : Int32))))))) ∧ (¬ r_11 < 0 → (vp_in i_7 256 ∧ (∀ x_15 : Int32, x_15 = (i_7 + (1 : Int32)) → (∃ n1 : Nat, n1 < n_6 ∧ IX9_unpick_43 p0 p1 v_present v_stitches v_wins n1 p1 x_5 x_15 (upd f_8 (i_7).toNatClampNeg (vp_nar .boolean (1 : Int32)))))))))))))))))) ∧ (r_3 = 0 → (QX9_unpick p0 p1 v_present v_stitches v_wins (-2 : Int32) v_wins)))))) ∧ (r_2 = 0 → (QX9_unpick p0 p1 v_present v_stitches v_wins (-1 : Int32) v_wins)))))))))) : KX9_unpick l D cI cZ PX9_unpick QX9_unpick := by
  intro sz h_this h_this_wool h_this_stitches h_this_place h_this_sightSundays h_this_sightWool h_this_pad h_this_act h_this_which h_this_much h_this_had h_this_rows h_this_groups h_this_covers h_this_byWool h_this_wins h_this_kept h_this_isKept p0 p1 v_present v_chest v_years v_sights v_padMany v_acts v_sweptMany v_badAct v_badWhy v_sweptAct v_sweptWhich v_keptAt v_isWriting v_stitches v_wins hpre
  have vc := hvc p0 p1 v_present v_stitches v_wins hpre
  clear hvc
  refine Met.ofW (cc := cX9_unpick) (maxL := 5) (ret := (some .int)) (by decide) rfl ?_
  intro p e s m args below meth c s₁ B hml hv
  obtain ⟨rfl, hsz, hP, hK, hD0⟩ := hv
  have hx := B.exec
  have hb := B.bytes
  have hr := B.returns
  have hts := atoms_spec (ws := wsX9_unpick) B.pre
  have hown : s.vm.findClass RX9 = some m.cls := findClass_of_methodNamed B.named
  have hlocks := B.notSynchronized
  subst hsz
  have hD := hD0.self (sz := s.heap.size)
  generalize hAe : va_A [(h_this, .inr (9, [.int v_present, .ref h_this_wool, .ref h_this_stitches, .ref h_this_place, .int v_chest, .int v_years, .ref h_this_sightSundays, .ref h_this_sightWool, .int v_sights, .ref h_this_pad, .int v_padMany, .ref h_this_act, .ref h_this_which, .ref h_this_much, .int v_acts, .int v_sweptMany, .ref h_this_had, .int v_badAct, .int v_badWhy, .int v_sweptAct, .int v_sweptWhich, .ref h_this_rows, .ref h_this_groups, .ref h_this_covers, .ref h_this_byWool, .ref h_this_wins, .ref h_this_kept, .ref h_this_isKept, .int v_keptAt, .int v_isWriting])), (h_this_stitches, .inl (cI, 10, .inl v_stitches)), (h_this_wins, .inl (cZ, 256, .inl v_wins))] s.heap.size = A at hD ⊢
  have hA : ∀ q : Nat, s.heap.size ≤ q → A q := fun q h => by rw [← hAe]; exact Or.inr h
  have hS : va_S A s.heap s.heap [] := va_S.rf
  have hP : va_P D vwCl [(h_this, .inr (9, [.int v_present, .ref h_this_wool, .ref h_this_stitches, .ref h_this_place, .int v_chest, .int v_years, .ref h_this_sightSundays, .ref h_this_sightWool, .int v_sights, .ref h_this_pad, .int v_padMany, .ref h_this_act, .ref h_this_which, .ref h_this_much, .int v_acts, .int v_sweptMany, .ref h_this_had, .int v_badAct, .int v_badWhy, .int v_sweptAct, .int v_sweptWhich, .ref h_this_rows, .ref h_this_groups, .ref h_this_covers, .ref h_this_byWool, .ref h_this_wins, .ref h_this_kept, .ref h_this_isKept, .int v_keptAt, .int v_isWriting])), (h_this_stitches, .inl (cI, 10, .inl v_stitches)), (h_this_wins, .inl (cZ, 256, .inl v_wins))] s.heap := hP
  have hl := lv_entry ([.ref h_this, .int p0, .int p1]) (n := 5) (Nat.le_of_ble_eq_true rfl)
  rw [lg_entry_eq]
  generalize (lg_sl ([.ref h_this, .int p0, .int p1]) ++ List.replicate (5 - (lg_sl ([.ref h_this, .int p0, .int p1])).length) Slot.unset).toArray = ls at hl ⊢
  have hl : lv_has ls 5 [(0, .ref h_this), (1, .int p0), (2, .int p1)] := hl
  refine lv_iload_n hx hb dX9_unpick_0 rfl (lv_at hl 1 rfl) ?_
  refine kj0_i (rest := []) (kS ⟨hx, hb, hml, hown, hts⟩ (kX9_isHassock _ p0 vc.1) (va_cwS 1 hts gX9_unpick_X9_isHassock rfl rfl rfl (by decide +kernel) ⟨(Nat.le_of_ble_eq_true rfl), (Nat.le_of_ble_eq_true rfl)⟩) hK rfl rfl hl.1 (Nat.le_of_ble_eq_true rfl) dX9_unpick_1 ⟨(Nat.le_of_ble_eq_true rfl), (Nat.le_of_ble_eq_true rfl)⟩) hP hS hA (fun r_1 H locs hq_ hP hS => ?_)
  replace vc := vc.2 r_1 hq_
  have hP : va_P D vwCl [(h_this, .inr (9, [.int v_present, .ref h_this_wool, .ref h_this_stitches, .ref h_this_place, .int v_chest, .int v_years, .ref h_this_sightSundays, .ref h_this_sightWool, .int v_sights, .ref h_this_pad, .int v_padMany, .ref h_this_act, .ref h_this_which, .ref h_this_much, .int v_acts, .int v_sweptMany, .ref h_this_had, .int v_badAct, .int v_badWhy, .int v_sweptAct, .int v_sweptWhich, .ref h_this_rows, .ref h_this_groups, .ref h_this_covers, .ref h_this_byWool, .ref h_this_wins, .ref h_this_kept, .ref h_this_isKept, .int v_keptAt, .int v_isWriting])), (h_this_stitches, .inl (cI, 10, .inl v_stitches)), (h_this_wins, .inl (cZ, 256, .inl v_wins))] H := hP
  refine lv_if_eq (tgt := 18) hx hb dX9_unpick_4 (by decide) (fun c_ => ?_) (fun c_ => ?_)
  · replace vc := vc.1 c_
    refine lv_iconst (v := (-1 : Int32)) hx hb dX9_unpick_18 (by decide) ?_
    exact W.iret (v := (-1 : Int32)) hx hb hr (fun t ht hW => ⟨⟨(-1 : Int32), (v_wins), rfl, vc, QB_mk (hP.sub [0, 1, 2] rfl) (hD.sub [0, 1, 2] rfl rfl) ht⟩, hS.F ht⟩) hS.2.2 dX9_unpick_19
  · replace vc := vc.2 c_
    refine lv_aload_n hx hb dX9_unpick_7 rfl (lv_at hl 0 rfl) ?_
    refine va_get (D := D) (ci := 9) (v := .int v_present) (C := RX9) (T := TX9) (N := 30) hx hb hts mcX9_unpick_X9 hown hK.1 hP 0 rfl rfl 0 (by decide) (hts _ mwX9_unpick_1) (fun _ h9 => h9) rfl dX9_unpick_8 ?_
    refine lv_iload_n hx hb dX9_unpick_11 rfl (lv_at hl 1 rfl) ?_
    refine kj0_i (rest := []) (kS ⟨hx, hb, hml, hown, hts⟩ (kX9_has _ v_present p0 vc.1) (va_cwS 2 hts gX9_unpick_X9_has rfl rfl rfl (by decide +kernel) ⟨(Nat.le_of_ble_eq_true rfl), (Nat.le_of_ble_eq_true rfl)⟩) hK rfl rfl hl.1 (Nat.le_of_ble_eq_true rfl) dX9_unpick_12 ⟨(Nat.le_of_ble_eq_true rfl), (Nat.le_of_ble_eq_true rfl)⟩) hP hS hA (fun r_2 H locs hq_ hP hS => ?_)
    replace vc := vc.2 r_2 hq_
    have hP : va_P D vwCl [(h_this, .inr (9, [.int v_present, .ref h_this_wool, .ref h_this_stitches, .ref h_this_place, .int v_chest, .int v_years, .ref h_this_sightSundays, .ref h_this_sightWool, .int v_sights, .ref h_this_pad, .int v_padMany, .ref h_this_act, .ref h_this_which, .ref h_this_much, .int v_acts, .int v_sweptMany, .ref h_this_had, .int v_badAct, .int v_badWhy, .int v_sweptAct, .int v_sweptWhich, .ref h_this_rows, .ref h_this_groups, .ref h_this_covers, .ref h_this_byWool, .ref h_this_wins, .ref h_this_kept, .ref h_this_isKept, .int v_keptAt, .int v_isWriting])), (h_this_stitches, .inl (cI, 10, .inl v_stitches)), (h_this_wins, .inl (cZ, 256, .inl v_wins))] H := hP
    refine lv_if_ne (tgt := 20) hx hb dX9_unpick_15 (by decide) (fun c_ => ?_) (fun c_ => ?_)
    · replace vc := vc.1 c_
      refine lv_iload_n hx hb dX9_unpick_20 rfl (lv_at hl 2 rfl) ?_
      refine lv_i2l hx hb dX9_unpick_21 rfl ?_
      refine lv_lconst (v := (0 : Int64)) hx hb dX9_unpick_22 (by decide) ?_
      refine lv_lconst (v := (1 : Int64)) hx hb dX9_unpick_23 (by decide) ?_
      refine kj0_i (rest := []) (kS ⟨hx, hb, hml, hown, hts⟩ (kX9_in _ (p1.toInt64) (0 : Int64) (1 : Int64) vc.1) (va_cwS 3 hts gX9_unpick_X9_in rfl rfl rfl (by decide +kernel) ⟨(Nat.le_of_ble_eq_true rfl), (Nat.le_of_ble_eq_true rfl)⟩) hK rfl rfl hl.1 (Nat.le_of_ble_eq_true rfl) dX9_unpick_24 ⟨(Nat.le_of_ble_eq_true rfl), (Nat.le_of_ble_eq_true rfl)⟩) hP hS hA (fun r_3 H locs hq_ hP hS => ?_)
      replace vc := vc.2 r_3 hq_
      have hP : va_P D vwCl [(h_this, .inr (9, [.int v_present, .ref h_this_wool, .ref h_this_stitches, .ref h_this_place, .int v_chest, .int v_years, .ref h_this_sightSundays, .ref h_this_sightWool, .int v_sights, .ref h_this_pad, .int v_padMany, .ref h_this_act, .ref h_this_which, .ref h_this_much, .int v_acts, .int v_sweptMany, .ref h_this_had, .int v_badAct, .int v_badWhy, .int v_sweptAct, .int v_sweptWhich, .ref h_this_rows, .ref h_this_groups, .ref h_this_covers, .ref h_this_byWool, .ref h_this_wins, .ref h_this_kept, .ref h_this_isKept, .int v_keptAt, .int v_isWriting])), (h_this_stitches, .inl (cI, 10, .inl v_stitches)), (h_this_wins, .inl (cZ, 256, .inl v_wins))] H := hP
      refine lv_if_ne (tgt := 33) hx hb dX9_unpick_27 (by decide) (fun c_ => ?_) (fun c_ => ?_)
      · replace vc := vc.1 c_
        refine lv_aload_n hx hb dX9_unpick_33 rfl (lv_at hl 0 rfl) ?_
        refine va_get (D := D) (ci := 9) (v := .ref h_this_stitches) (C := RX9) (T := TX9) (N := 30) hx hb hts mcX9_unpick_X9 hown hK.1 hP 0 rfl rfl 2 (by decide) (hts _ mwX9_unpick_2) (fun _ h9 => h9) rfl dX9_unpick_34 ?_
        refine lv_iload_n hx hb dX9_unpick_37 rfl (lv_at hl 1 rfl) ?_
        have hi_4 := vc.1
        replace vc := vc.2
        refine va_iald hx hb hK.1 hP 1 0 rfl rfl hi_4 dX9_unpick_38 ?_
        refine lv_topi (fun x_5 ex_5 => ?_)
        replace vc := vc x_5 ex_5
        refine lv_istore_n (lv' := [(3, .int x_5), (0, .ref h_this), (1, .int p0), (2, .int p1)]) hx hb dX9_unpick_39 rfl hl (by decide) rfl (fun ls hl => ?_)
        refine lv_iconst (v := (0 : Int32)) hx hb dX9_unpick_40 (by decide) ?_
        refine lv_istore (lv' := [(4, .int (0 : Int32)), (3, .int x_5), (0, .ref h_this), (1, .int p0), (2, .int p1)]) hx hb dX9_unpick_41 hl (by decide) rfl (fun ls hl => ?_)
        obtain ⟨⟨n0_6, hi0_6⟩, vc⟩ := vc
        refine kloop (V := Int32 × (Nat → Int32)) (I := fun n v => IX9_unpick_43 p0 p1 v_present v_stitches v_wins n p1 x_5 (v.1) (v.2)) (wv := fun v => [(h_this, .inr (9, [.int v_present, .ref h_this_wool, .ref h_this_stitches, .ref h_this_place, .int v_chest, .int v_years, .ref h_this_sightSundays, .ref h_this_sightWool, .int v_sights, .ref h_this_pad, .int v_padMany, .ref h_this_act, .ref h_this_which, .ref h_this_much, .int v_acts, .int v_sweptMany, .ref h_this_had, .int v_badAct, .int v_badWhy, .int v_sweptAct, .int v_sweptWhich, .ref h_this_rows, .ref h_this_groups, .ref h_this_covers, .ref h_this_byWool, .ref h_this_wins, .ref h_this_kept, .ref h_this_isKept, .int v_keptAt, .int v_isWriting])), (h_this_stitches, .inl (cI, 10, .inl v_stitches)), (h_this_wins, .inl (cZ, 256, .inl (v.2)))]) (lv := fun v => [(0, .ref h_this), (2, .int p1), (3, .int x_5), (4, .int (v.1))]) n0_6 ((0 : Int32), v_wins) hi0_6 hP hD hS (lv_sub hl [2, 4, 1, 0] rfl) ?_
        intro n_6 v_6 hi_6 ih_6 H locs hP hD hS ls hl
        obtain ⟨i_7, f_8⟩ := v_6
        replace vc := vc n_6 i_7 f_8 hi_6
        have hP : va_P D vwCl [(h_this, .inr (9, [.int v_present, .ref h_this_wool, .ref h_this_stitches, .ref h_this_place, .int v_chest, .int v_years, .ref h_this_sightSundays, .ref h_this_sightWool, .int v_sights, .ref h_this_pad, .int v_padMany, .ref h_this_act, .ref h_this_which, .ref h_this_much, .int v_acts, .int v_sweptMany, .ref h_this_had, .int v_badAct, .int v_badWhy, .int v_sweptAct, .int v_sweptWhich, .ref h_this_rows, .ref h_this_groups, .ref h_this_covers, .ref h_this_byWool, .ref h_this_wins, .ref h_this_kept, .ref h_this_isKept, .int v_keptAt, .int v_isWriting])), (h_this_stitches, .inl (cI, 10, .inl v_stitches)), (h_this_wins, .inl (cZ, 256, .inl f_8))] H := hP
        have hD : va_D A [(h_this, .inr (9, [.int v_present, .ref h_this_wool, .ref h_this_stitches, .ref h_this_place, .int v_chest, .int v_years, .ref h_this_sightSundays, .ref h_this_sightWool, .int v_sights, .ref h_this_pad, .int v_padMany, .ref h_this_act, .ref h_this_which, .ref h_this_much, .int v_acts, .int v_sweptMany, .ref h_this_had, .int v_badAct, .int v_badWhy, .int v_sweptAct, .int v_sweptWhich, .ref h_this_rows, .ref h_this_groups, .ref h_this_covers, .ref h_this_byWool, .ref h_this_wins, .ref h_this_kept, .ref h_this_isKept, .int v_keptAt, .int v_isWriting])), (h_this_stitches, .inl (cI, 10, .inl v_stitches)), (h_this_wins, .inl (cZ, 256, .inl f_8))] := hD
        have hl : lv_has ls 5 [(0, .ref h_this), (2, .int p1), (3, .int x_5), (4, .int i_7)] := hl
        refine lv_iload hx hb dX9_unpick_43 (lv_at hl 3 rfl) ?_
        refine lv_iload_n hx hb dX9_unpick_45 rfl (lv_at hl 2 rfl) ?_
        refine lv_icmp_gt (tgt := 76) hx hb dX9_unpick_46 (by decide) (fun c_ => ?_) (fun c_ => ?_)
        · replace vc := vc.1 c_
          refine lv_iload_n hx hb dX9_unpick_76 rfl (lv_at hl 1 rfl) ?_
          refine lv_iconst (v := (1 : Int32)) hx hb dX9_unpick_77 (by decide) ?_
          refine lv_icmp_ne (tgt := 89) hx hb dX9_unpick_78 (by decide) (fun c_ => ?_) (fun c_ => ?_)
          · replace vc := vc.1 c_
            refine lv_aload_n hx hb dX9_unpick_89 rfl (lv_at hl 0 rfl) ?_
            refine va_get (D := D) (ci := 9) (v := .ref h_this_wins) (C := RX9) (T := TX9) (N := 30) hx hb hts mcX9_unpick_X9 hown hK.1 hP 0 rfl rfl 25 (by decide) (hts _ mwX9_unpick_3) (fun _ h9 => h9) rfl dX9_unpick_90 ?_
            refine lv_iload_n hx hb dX9_unpick_93 rfl (lv_at hl 2 rfl) ?_
            have hi_9 := vc.1
            replace vc := vc.2
            refine va_zald hx hb hK.1 hP 2 1 rfl rfl hi_9 dX9_unpick_94 ?_
            refine lv_if_eq (tgt := 102) hx hb dX9_unpick_95 (by decide) (fun c_ => ?_) (fun c_ => ?_)
            · replace vc := vc.1 c_
              refine lv_iconst (v := (0 : Int32)) hx hb dX9_unpick_102 (by decide) ?_
              exact W.iret (v := (0 : Int32)) hx hb hr (fun t ht hW => ⟨⟨(0 : Int32), (f_8), rfl, vc, QB_mk (hP.sub [0, 1, 2] rfl) (hD.sub [0, 1, 2] rfl rfl) ht⟩, hS.F ht⟩) hS.2.2 dX9_unpick_103
            · replace vc := vc.2 c_
              refine lv_iconst (v := (1 : Int32)) hx hb dX9_unpick_98 (by decide) ?_
              refine lv_goto (tgt := 103) hx hb dX9_unpick_99 (by decide) ?_
              exact W.iret (v := (1 : Int32)) hx hb hr (fun t ht hW => ⟨⟨(1 : Int32), (f_8), rfl, vc, QB_mk (hP.sub [0, 1, 2] rfl) (hD.sub [0, 1, 2] rfl rfl) ht⟩, hS.F ht⟩) hS.2.2 dX9_unpick_103
          · replace vc := vc.2 c_
            refine lv_aload_n hx hb dX9_unpick_81 rfl (lv_at hl 0 rfl) ?_
            refine lv_iload_n hx hb dX9_unpick_82 rfl (lv_at hl 2 rfl) ?_
            refine kj_i (wr := [(h_this_stitches, .inl (cI, 10, .inl v_stitches))]) (rest := []) (kV ⟨hx, hb, hml, hown, hts⟩ (kX9_leastPick _ h_this h_this_wool h_this_stitches h_this_place h_this_sightSundays h_this_sightWool h_this_pad h_this_act h_this_which h_this_much h_this_had h_this_rows h_this_groups h_this_covers h_this_byWool h_this_wins h_this_kept h_this_isKept x_5 v_present v_chest v_years v_sights v_padMany v_acts v_sweptMany v_badAct v_badWhy v_sweptAct v_sweptWhich v_keptAt v_isWriting f_8 vc.1) (cwV 1 hts gX9_unpick_X9_leastPick rfl rfl rfl (by decide +kernel) ⟨(Nat.le_of_ble_eq_true rfl), (Nat.le_of_ble_eq_true rfl)⟩) hK hP hD [0, 2] rfl rfl 0 9 rfl rfl rfl rfl rfl hl.1 (Nat.le_of_ble_eq_true rfl) dX9_unpick_83 ⟨(Nat.le_of_ble_eq_true rfl), (Nat.le_of_ble_eq_true rfl)⟩) hP hD hS hA [0, 2] [1] rfl rfl rfl rfl (fun r_10 u_ H locs hq_ hP hD hS => ?_)
            replace vc := vc.2 r_10  hq_
            have hP : va_P D vwCl [(h_this_stitches, .inl (cI, 10, .inl v_stitches)), (h_this, .inr (9, [.int v_present, .ref h_this_wool, .ref h_this_stitches, .ref h_this_place, .int v_chest, .int v_years, .ref h_this_sightSundays, .ref h_this_sightWool, .int v_sights, .ref h_this_pad, .int v_padMany, .ref h_this_act, .ref h_this_which, .ref h_this_much, .int v_acts, .int v_sweptMany, .ref h_this_had, .int v_badAct, .int v_badWhy, .int v_sweptAct, .int v_sweptWhich, .ref h_this_rows, .ref h_this_groups, .ref h_this_covers, .ref h_this_byWool, .ref h_this_wins, .ref h_this_kept, .ref h_this_isKept, .int v_keptAt, .int v_isWriting])), (h_this_wins, .inl (cZ, 256, .inl f_8))] H := hP
            have hD : va_D A [(h_this_stitches, .inl (cI, 10, .inl v_stitches)), (h_this, .inr (9, [.int v_present, .ref h_this_wool, .ref h_this_stitches, .ref h_this_place, .int v_chest, .int v_years, .ref h_this_sightSundays, .ref h_this_sightWool, .int v_sights, .ref h_this_pad, .int v_padMany, .ref h_this_act, .ref h_this_which, .ref h_this_much, .int v_acts, .int v_sweptMany, .ref h_this_had, .int v_badAct, .int v_badWhy, .int v_sweptAct, .int v_sweptWhich, .ref h_this_rows, .ref h_this_groups, .ref h_this_covers, .ref h_this_byWool, .ref h_this_wins, .ref h_this_kept, .ref h_this_isKept, .int v_keptAt, .int v_isWriting])), (h_this_wins, .inl (cZ, 256, .inl f_8))] := hD
            refine lv_goto (tgt := 103) hx hb dX9_unpick_86 (by decide) ?_
            exact W.iret (v := r_10) hx hb hr (fun t ht hW => ⟨⟨r_10, (f_8), rfl, vc, QB_mk (hP.sub [1, 0, 2] rfl) (hD.sub [1, 0, 2] rfl rfl) ht⟩, hS.F ht⟩) hS.2.2 dX9_unpick_103
        · replace vc := vc.2 c_
          refine lv_aload_n hx hb dX9_unpick_49 rfl (lv_at hl 0 rfl) ?_
          refine va_get (D := D) (ci := 9) (v := .ref h_this_wins) (C := RX9) (T := TX9) (N := 30) hx hb hts mcX9_unpick_X9 hown hK.1 hP 0 rfl rfl 25 (by decide) (hts _ mwX9_unpick_3) (fun _ h9 => h9) rfl dX9_unpick_50 ?_
          refine lv_iload hx hb dX9_unpick_53 (lv_at hl 3 rfl) ?_
          refine lv_aload_n hx hb dX9_unpick_55 rfl (lv_at hl 0 rfl) ?_
          refine lv_iload hx hb dX9_unpick_56 (lv_at hl 3 rfl) ?_
          refine kj_i (wr := [(h_this_stitches, .inl (cI, 10, .inl v_stitches))]) (rest := [.int i_7, .ref h_this_wins]) (kV ⟨hx, hb, hml, hown, hts⟩ (kX9_leastPick _ h_this h_this_wool h_this_stitches h_this_place h_this_sightSundays h_this_sightWool h_this_pad h_this_act h_this_which h_this_much h_this_had h_this_rows h_this_groups h_this_covers h_this_byWool h_this_wins h_this_kept h_this_isKept i_7 v_present v_chest v_years v_sights v_padMany v_acts v_sweptMany v_badAct v_badWhy v_sweptAct v_sweptWhich v_keptAt v_isWriting f_8 vc.1) (cwV 1 hts gX9_unpick_X9_leastPick rfl rfl rfl (by decide +kernel) ⟨(Nat.le_of_ble_eq_true rfl), (Nat.le_of_ble_eq_true rfl)⟩) hK hP hD [0, 2] rfl rfl 0 9 rfl rfl rfl rfl rfl hl.1 (Nat.le_of_ble_eq_true rfl) dX9_unpick_58 ⟨(Nat.le_of_ble_eq_true rfl), (Nat.le_of_ble_eq_true rfl)⟩) hP hD hS hA [0, 2] [1] rfl rfl rfl rfl (fun r_11 u_ H locs hq_ hP hD hS => ?_)
          replace vc := vc.2 r_11  hq_
          have hP : va_P D vwCl [(h_this_stitches, .inl (cI, 10, .inl v_stitches)), (h_this, .inr (9, [.int v_present, .ref h_this_wool, .ref h_this_stitches, .ref h_this_place, .int v_chest, .int v_years, .ref h_this_sightSundays, .ref h_this_sightWool, .int v_sights, .ref h_this_pad, .int v_padMany, .ref h_this_act, .ref h_this_which, .ref h_this_much, .int v_acts, .int v_sweptMany, .ref h_this_had, .int v_badAct, .int v_badWhy, .int v_sweptAct, .int v_sweptWhich, .ref h_this_rows, .ref h_this_groups, .ref h_this_covers, .ref h_this_byWool, .ref h_this_wins, .ref h_this_kept, .ref h_this_isKept, .int v_keptAt, .int v_isWriting])), (h_this_wins, .inl (cZ, 256, .inl f_8))] H := hP
          have hD : va_D A [(h_this_stitches, .inl (cI, 10, .inl v_stitches)), (h_this, .inr (9, [.int v_present, .ref h_this_wool, .ref h_this_stitches, .ref h_this_place, .int v_chest, .int v_years, .ref h_this_sightSundays, .ref h_this_sightWool, .int v_sights, .ref h_this_pad, .int v_padMany, .ref h_this_act, .ref h_this_which, .ref h_this_much, .int v_acts, .int v_sweptMany, .ref h_this_had, .int v_badAct, .int v_badWhy, .int v_sweptAct, .int v_sweptWhich, .ref h_this_rows, .ref h_this_groups, .ref h_this_covers, .ref h_this_byWool, .ref h_this_wins, .ref h_this_kept, .ref h_this_isKept, .int v_keptAt, .int v_isWriting])), (h_this_wins, .inl (cZ, 256, .inl f_8))] := hD
          refine lv_if_lt (tgt := 68) hx hb dX9_unpick_61 (by decide) (fun c_ => ?_) (fun c_ => ?_)
          · replace vc := vc.1 c_
            refine lv_iconst (v := (0 : Int32)) hx hb dX9_unpick_68 (by decide) ?_
            have hi_12 := vc.1
            replace vc := vc.2
            refine va_zast hx hb hK.1 hP hD hS 2 1 rfl rfl hi_12 dX9_unpick_69 (fun H locs hP hD hS => ?_)
            have hP : va_P D vwCl [(h_this_stitches, .inl (cI, 10, .inl v_stitches)), (h_this, .inr (9, [.int v_present, .ref h_this_wool, .ref h_this_stitches, .ref h_this_place, .int v_chest, .int v_years, .ref h_this_sightSundays, .ref h_this_sightWool, .int v_sights, .ref h_this_pad, .int v_padMany, .ref h_this_act, .ref h_this_which, .ref h_this_much, .int v_acts, .int v_sweptMany, .ref h_this_had, .int v_badAct, .int v_badWhy, .int v_sweptAct, .int v_sweptWhich, .ref h_this_rows, .ref h_this_groups, .ref h_this_covers, .ref h_this_byWool, .ref h_this_wins, .ref h_this_kept, .ref h_this_isKept, .int v_keptAt, .int v_isWriting])), (h_this_wins, .inl (cZ, 256, .inl (upd f_8 (i_7).toNatClampNeg (vp_nar .boolean (0 : Int32)))))] H := hP
            have hD : va_D A [(h_this_stitches, .inl (cI, 10, .inl v_stitches)), (h_this, .inr (9, [.int v_present, .ref h_this_wool, .ref h_this_stitches, .ref h_this_place, .int v_chest, .int v_years, .ref h_this_sightSundays, .ref h_this_sightWool, .int v_sights, .ref h_this_pad, .int v_padMany, .ref h_this_act, .ref h_this_which, .ref h_this_much, .int v_acts, .int v_sweptMany, .ref h_this_had, .int v_badAct, .int v_badWhy, .int v_sweptAct, .int v_sweptWhich, .ref h_this_rows, .ref h_this_groups, .ref h_this_covers, .ref h_this_byWool, .ref h_this_wins, .ref h_this_kept, .ref h_this_isKept, .int v_keptAt, .int v_isWriting])), (h_this_wins, .inl (cZ, 256, .inl (upd f_8 (i_7).toNatClampNeg (vp_nar .boolean (0 : Int32)))))] := hD
            obtain ⟨x_13, ex_13⟩ : ∃ y_ : Int32, y_ = (i_7 + (1 : Int32)) := ⟨_, rfl⟩
            replace vc := vc x_13 ex_13
            refine lv_iinc (v := x_13) (lv' := [(4, .int x_13), (0, .ref h_this), (2, .int p1), (3, .int x_5)]) hx hb dX9_unpick_70 hl (k := 3) rfl (by rw [ex_13]; rfl) (by decide) rfl (fun ls hl => ?_)
            refine lv_goto (tgt := 43) hx hb dX9_unpick_73 (by decide) ?_
            obtain ⟨n1_, hlt_, hi_⟩ := vc
            exact ih_6 n1_ (x_13, (upd f_8 (i_7).toNatClampNeg (vp_nar .boolean (0 : Int32)))) hlt_ hi_ _ _ (hP.sub [1, 0, 2] rfl) (hD.sub [1, 0, 2] rfl rfl) hS ls (lv_sub hl [1, 2, 3, 0] rfl)
          · replace vc := vc.2 c_
            refine lv_iconst (v := (1 : Int32)) hx hb dX9_unpick_64 (by decide) ?_
            refine lv_goto (tgt := 69) hx hb dX9_unpick_65 (by decide) ?_
            have hi_14 := vc.1
            replace vc := vc.2
            refine va_zast hx hb hK.1 hP hD hS 2 1 rfl rfl hi_14 dX9_unpick_69 (fun H locs hP hD hS => ?_)
            have hP : va_P D vwCl [(h_this_stitches, .inl (cI, 10, .inl v_stitches)), (h_this, .inr (9, [.int v_present, .ref h_this_wool, .ref h_this_stitches, .ref h_this_place, .int v_chest, .int v_years, .ref h_this_sightSundays, .ref h_this_sightWool, .int v_sights, .ref h_this_pad, .int v_padMany, .ref h_this_act, .ref h_this_which, .ref h_this_much, .int v_acts, .int v_sweptMany, .ref h_this_had, .int v_badAct, .int v_badWhy, .int v_sweptAct, .int v_sweptWhich, .ref h_this_rows, .ref h_this_groups, .ref h_this_covers, .ref h_this_byWool, .ref h_this_wins, .ref h_this_kept, .ref h_this_isKept, .int v_keptAt, .int v_isWriting])), (h_this_wins, .inl (cZ, 256, .inl (upd f_8 (i_7).toNatClampNeg (vp_nar .boolean (1 : Int32)))))] H := hP
            have hD : va_D A [(h_this_stitches, .inl (cI, 10, .inl v_stitches)), (h_this, .inr (9, [.int v_present, .ref h_this_wool, .ref h_this_stitches, .ref h_this_place, .int v_chest, .int v_years, .ref h_this_sightSundays, .ref h_this_sightWool, .int v_sights, .ref h_this_pad, .int v_padMany, .ref h_this_act, .ref h_this_which, .ref h_this_much, .int v_acts, .int v_sweptMany, .ref h_this_had, .int v_badAct, .int v_badWhy, .int v_sweptAct, .int v_sweptWhich, .ref h_this_rows, .ref h_this_groups, .ref h_this_covers, .ref h_this_byWool, .ref h_this_wins, .ref h_this_kept, .ref h_this_isKept, .int v_keptAt, .int v_isWriting])), (h_this_wins, .inl (cZ, 256, .inl (upd f_8 (i_7).toNatClampNeg (vp_nar .boolean (1 : Int32)))))] := hD
            obtain ⟨x_15, ex_15⟩ : ∃ y_ : Int32, y_ = (i_7 + (1 : Int32)) := ⟨_, rfl⟩
            replace vc := vc x_15 ex_15
            refine lv_iinc (v := x_15) (lv' := [(4, .int x_15), (0, .ref h_this), (2, .int p1), (3, .int x_5)]) hx hb dX9_unpick_70 hl (k := 3) rfl (by rw [ex_15]; rfl) (by decide) rfl (fun ls hl => ?_)
            refine lv_goto (tgt := 43) hx hb dX9_unpick_73 (by decide) ?_
            obtain ⟨n1_, hlt_, hi_⟩ := vc
            exact ih_6 n1_ (x_15, (upd f_8 (i_7).toNatClampNeg (vp_nar .boolean (1 : Int32)))) hlt_ hi_ _ _ (hP.sub [1, 0, 2] rfl) (hD.sub [1, 0, 2] rfl rfl) hS ls (lv_sub hl [1, 2, 3, 0] rfl)
      · replace vc := vc.2 c_
        refine lv_bipush (v := (-2 : Int32)) hx hb dX9_unpick_30 (by decide) ?_
        exact W.iret (v := (-2 : Int32)) hx hb hr (fun t ht hW => ⟨⟨(-2 : Int32), (v_wins), rfl, vc, QB_mk (hP.sub [0, 1, 2] rfl) (hD.sub [0, 1, 2] rfl rfl) ht⟩, hS.F ht⟩) hS.2.2 dX9_unpick_32
    · replace vc := vc.2 c_
      refine lv_iconst (v := (-1 : Int32)) hx hb dX9_unpick_18 (by decide) ?_
      exact W.iret (v := (-1 : Int32)) hx hb hr (fun t ht hW => ⟨⟨(-1 : Int32), (v_wins), rfl, vc, QB_mk (hP.sub [0, 1, 2] rfl) (hD.sub [0, 1, 2] rfl rfl) ht⟩, hS.F ht⟩) hS.2.2 dX9_unpick_19

def KX9_lowest (l : Launch) (D : va_G) (cI cZ : ClassId) (P : Int64 → Int64 → Int32 → Prop) (Q : Int64 → Int64 → Int32 → Int64 → Prop) : Prop := ∀ (sz : Nat) (p0 : Int64) (p1 : Int64) (p2 : Int32), P p0 p1 p2 → ML l yX9_lowest wsX9_lowest ({ frames := 0, cells := 0, slots := 0, locals := 0 }) [.long p0, .long p1, .int p2] D cI cZ sz [] (fun r (u : Unit) => Q p0 p1 p2 r ) (fun u => []) 0 0
set_option maxHeartbeats 4000000 in
set_option maxRecDepth 100000 in
theorem walkX9_lowest {l : Launch} {D : va_G} {cI cZ : ClassId} {PX9_lowest : Int64 → Int64 → Int32 → Prop} {QX9_lowest : Int64 → Int64 → Int32 → Int64 → Prop} (IX9_lowest_6 : Int64 → Int64 → Int32 → Nat → Int64 → Int64 → Int32 → Int64 → Int64 → Prop) (hvc : ∀ (p0 : Int64) (p1 : Int64) (p2 : Int32), PX9_lowest p0 p1 p2 → ((∃ n0 : Nat, IX9_lowest_6 p0 p1 p2 n0 p0 p1 p2 p1 p0) ∧ (∀ (n_1 : Nat) (j_2 : Int64) (j_3 : Int64), (IX9_lowest_6 p0 p1 p2 n_1 p0 p1 p2 j_2 j_3 → (((lg_cmp j_3 (0 : Int64)) = 0 → ((¬ p2 = 0 → (¬ j_2 = 0 ∧ (QX9_lowest p0 p1 p2 (p1 / j_2) ))) ∧ (p2 = 0 → (¬ j_2 = 0 ∧ (QX9_lowest p0 p1 p2 (p0 / j_2) ))))) ∧ (¬ (lg_cmp j_3 (0 : Int64)) = 0 → (¬ j_3 = 0 ∧ (∀ x_4 : Int64, x_4 = (j_2 - j_2 / j_3 * j_3) → (∃ n1 : Nat, n1 < n_1 ∧ IX9_lowest_6 p0 p1 p2 n1 p0 p1 p2 j_3 x_4))))))))) : KX9_lowest l D cI cZ PX9_lowest QX9_lowest := by
  intro sz  p0 p1 p2 hpre
  have vc := hvc p0 p1 p2 hpre
  clear hvc
  refine Met.ofW (cc := cX9_lowest) (maxL := 11) (ret := (some .long)) (by decide) rfl ?_
  intro p e s m args below meth c s₁ B hml hv
  obtain ⟨rfl, hsz, hP, hK, hD0⟩ := hv
  have hx := B.exec
  have hb := B.bytes
  have hr := B.returns
  have hts := atoms_spec (ws := wsX9_lowest) B.pre
  have hown : s.vm.findClass RX9 = some m.cls := findClass_of_methodNamed B.named
  have hlocks := B.notSynchronized
  subst hsz
  have hD := hD0.self (sz := s.heap.size)
  generalize hAe : va_A [] s.heap.size = A at hD ⊢
  have hA : ∀ q : Nat, s.heap.size ≤ q → A q := fun q h => by rw [← hAe]; exact Or.inr h
  have hS : va_S A s.heap s.heap [] := va_S.rf
  have hP : va_P D vwCl [] s.heap := hP
  have hl := lv_entry ([.long p0, .long p1, .int p2]) (n := 11) (Nat.le_of_ble_eq_true rfl)
  rw [lg_entry_eq]
  generalize (lg_sl ([.long p0, .long p1, .int p2]) ++ List.replicate (11 - (lg_sl ([.long p0, .long p1, .int p2])).length) Slot.unset).toArray = ls at hl ⊢
  have hl : lv_has ls 11 [(0, .long p0), (2, .long p1), (4, .int p2)] := hl
  refine lv_lload_n hx hb dX9_lowest_0 rfl (lv_at hl 1 rfl) ?_
  refine lv_lstore (lv' := [(5, .long p1), (0, .long p0), (2, .long p1), (4, .int p2)]) hx hb dX9_lowest_1 hl (by decide) rfl (fun ls hl => ?_)
  refine lv_lload_n hx hb dX9_lowest_3 rfl (lv_at hl 1 rfl) ?_
  refine lv_lstore (lv' := [(7, .long p0), (5, .long p1), (0, .long p0), (2, .long p1), (4, .int p2)]) hx hb dX9_lowest_4 hl (by decide) rfl (fun ls hl => ?_)
  obtain ⟨⟨n0_1, hi0_1⟩, vc⟩ := vc
  refine kloop (V := Int64 × Int64) (I := fun n v => IX9_lowest_6 p0 p1 p2 n p0 p1 p2 (v.1) (v.2)) (wv := fun v => []) (lv := fun v => [(0, .long p0), (2, .long p1), (4, .int p2), (5, .long (v.1)), (7, .long (v.2))]) n0_1 (p1, p0) hi0_1 hP hD hS (lv_sub hl [2, 3, 4, 1, 0] rfl) ?_
  intro n_1 v_1 hi_1 ih_1 H locs hP hD hS ls hl
  obtain ⟨j_2, j_3⟩ := v_1
  replace vc := vc n_1 j_2 j_3 hi_1
  have hP : va_P D vwCl [] H := hP
  have hD : va_D A [] := hD
  have hl : lv_has ls 11 [(0, .long p0), (2, .long p1), (4, .int p2), (5, .long j_2), (7, .long j_3)] := hl
  refine lv_lload hx hb dX9_lowest_6 (lv_at hl 4 rfl) ?_
  refine lv_lconst (v := (0 : Int64)) hx hb dX9_lowest_8 (by decide) ?_
  refine W.lcmp hx hb dX9_lowest_9 ?_
  refine lv_if_eq (tgt := 31) hx hb dX9_lowest_10 (by decide) (fun c_ => ?_) (fun c_ => ?_)
  · replace vc := vc.1 c_
    refine lv_iload hx hb dX9_lowest_31 (lv_at hl 2 rfl) ?_
    refine lv_if_ne (tgt := 43) hx hb dX9_lowest_33 (by decide) (fun c_ => ?_) (fun c_ => ?_)
    · replace vc := vc.1 c_
      refine lv_lload_n hx hb dX9_lowest_43 rfl (lv_at hl 1 rfl) ?_
      refine lv_lload hx hb dX9_lowest_44 (lv_at hl 3 rfl) ?_
      have hne_ := vc.1
      replace vc := vc.2
      refine lv_ldiv hx hb dX9_lowest_46 hne_ ?_
      exact W.lret (v := (p1 / j_2)) hx hb hr (fun t ht hW => ⟨⟨(p1 / j_2), (), rfl, vc, QB_mk (hP.sub [] rfl) (hD.sub [] rfl rfl) ht⟩, hS.F ht⟩) hS.2.2 dX9_lowest_47
    · replace vc := vc.2 c_
      refine lv_lload_n hx hb dX9_lowest_36 rfl (lv_at hl 0 rfl) ?_
      refine lv_lload hx hb dX9_lowest_37 (lv_at hl 3 rfl) ?_
      have hne_ := vc.1
      replace vc := vc.2
      refine lv_ldiv hx hb dX9_lowest_39 hne_ ?_
      refine lv_goto (tgt := 47) hx hb dX9_lowest_40 (by decide) ?_
      exact W.lret (v := (p0 / j_2)) hx hb hr (fun t ht hW => ⟨⟨(p0 / j_2), (), rfl, vc, QB_mk (hP.sub [] rfl) (hD.sub [] rfl rfl) ht⟩, hS.F ht⟩) hS.2.2 dX9_lowest_47
  · replace vc := vc.2 c_
    refine lv_lload hx hb dX9_lowest_13 (lv_at hl 3 rfl) ?_
    refine lv_lload hx hb dX9_lowest_15 (lv_at hl 4 rfl) ?_
    have hne_ := vc.1
    replace vc := vc.2
    refine lv_lrem hx hb dX9_lowest_17 hne_ ?_
    refine lv_topl (fun x_4 ex_4 => ?_)
    replace vc := vc x_4 ex_4
    refine lv_lstore (lv' := [(9, .long x_4), (0, .long p0), (2, .long p1), (4, .int p2), (5, .long j_2), (7, .long j_3)]) hx hb dX9_lowest_18 hl (by decide) rfl (fun ls hl => ?_)
    refine lv_lload hx hb dX9_lowest_20 (lv_at hl 5 rfl) ?_
    refine lv_lstore (lv' := [(5, .long j_3), (9, .long x_4), (0, .long p0), (2, .long p1), (4, .int p2), (7, .long j_3)]) hx hb dX9_lowest_22 hl (by decide) rfl (fun ls hl => ?_)
    refine lv_lload hx hb dX9_lowest_24 (lv_at hl 1 rfl) ?_
    refine lv_lstore (lv' := [(7, .long x_4), (5, .long j_3), (9, .long x_4), (0, .long p0), (2, .long p1), (4, .int p2)]) hx hb dX9_lowest_26 hl (by decide) rfl (fun ls hl => ?_)
    refine lv_goto (tgt := 6) hx hb dX9_lowest_28 (by decide) ?_
    obtain ⟨n1_, hlt_, hi_⟩ := vc
    exact ih_1 n1_ (j_3, x_4) hlt_ hi_ _ _ hP hD hS ls (lv_sub hl [3, 4, 5, 1, 0] rfl)

def KX9_power (l : Launch) (D : va_G) (cI cZ : ClassId) (P : Int64 → Int32 → Prop) (Q : Int64 → Int32 → Int64 → Prop) : Prop := ∀ (sz : Nat) (p0 : Int64) (p1 : Int32), P p0 p1 → ML l yX9_power wsX9_power ({ frames := 0, cells := 0, slots := 0, locals := 0 }) [.long p0, .int p1] D cI cZ sz [] (fun r (u : Unit) => Q p0 p1 r ) (fun u => []) 0 0
set_option maxHeartbeats 4000000 in
set_option maxRecDepth 100000 in
theorem walkX9_power {l : Launch} {D : va_G} {cI cZ : ClassId} {PX9_power : Int64 → Int32 → Prop} {QX9_power : Int64 → Int32 → Int64 → Prop} (IX9_power_5 : Int64 → Int32 → Nat → Int64 → Int32 → Int64 → Int32 → Prop) (hvc : ∀ (p0 : Int64) (p1 : Int32), PX9_power p0 p1 → ((∃ n0 : Nat, IX9_power_5 p0 p1 n0 p0 p1 (1 : Int64) (0 : Int32)) ∧ (∀ (n_1 : Nat) (j_2 : Int64) (i_3 : Int32), (IX9_power_5 p0 p1 n_1 p0 p1 j_2 i_3 → ((p1 ≤ i_3 → (QX9_power p0 p1 j_2 )) ∧ (¬ p1 ≤ i_3 → (∀ x_4 : Int64, x_4 = (j_2 * p0) → (∀ x_5 : Int32, x_5 = (i_3 + (1 : Int32)) → (∃ n1 : Nat, n1 < n_1 ∧ IX9_power_5 p0 p1 n1 p0 p1 x_4 x_5))))))))) : KX9_power l D cI cZ PX9_power QX9_power := by
  intro sz  p0 p1 hpre
  have vc := hvc p0 p1 hpre
  clear hvc
  refine Met.ofW (cc := cX9_power) (maxL := 6) (ret := (some .long)) (by decide) rfl ?_
  intro p e s m args below meth c s₁ B hml hv
  obtain ⟨rfl, hsz, hP, hK, hD0⟩ := hv
  have hx := B.exec
  have hb := B.bytes
  have hr := B.returns
  have hts := atoms_spec (ws := wsX9_power) B.pre
  have hown : s.vm.findClass RX9 = some m.cls := findClass_of_methodNamed B.named
  have hlocks := B.notSynchronized
  subst hsz
  have hD := hD0.self (sz := s.heap.size)
  generalize hAe : va_A [] s.heap.size = A at hD ⊢
  have hA : ∀ q : Nat, s.heap.size ≤ q → A q := fun q h => by rw [← hAe]; exact Or.inr h
  have hS : va_S A s.heap s.heap [] := va_S.rf
  have hP : va_P D vwCl [] s.heap := hP
  have hl := lv_entry ([.long p0, .int p1]) (n := 6) (Nat.le_of_ble_eq_true rfl)
  rw [lg_entry_eq]
  generalize (lg_sl ([.long p0, .int p1]) ++ List.replicate (6 - (lg_sl ([.long p0, .int p1])).length) Slot.unset).toArray = ls at hl ⊢
  have hl : lv_has ls 6 [(0, .long p0), (2, .int p1)] := hl
  refine lv_lconst (v := (1 : Int64)) hx hb dX9_power_0 (by decide) ?_
  refine lv_lstore_n (lv' := [(3, .long (1 : Int64)), (0, .long p0), (2, .int p1)]) hx hb dX9_power_1 rfl hl (by decide) rfl (fun ls hl => ?_)
  refine lv_iconst (v := (0 : Int32)) hx hb dX9_power_2 (by decide) ?_
  refine lv_istore (lv' := [(5, .int (0 : Int32)), (3, .long (1 : Int64)), (0, .long p0), (2, .int p1)]) hx hb dX9_power_3 hl (by decide) rfl (fun ls hl => ?_)
  obtain ⟨⟨n0_1, hi0_1⟩, vc⟩ := vc
  refine kloop (V := Int64 × Int32) (I := fun n v => IX9_power_5 p0 p1 n p0 p1 (v.1) (v.2)) (wv := fun v => []) (lv := fun v => [(0, .long p0), (2, .int p1), (3, .long (v.1)), (5, .int (v.2))]) n0_1 ((1 : Int64), (0 : Int32)) hi0_1 hP hD hS (lv_sub hl [2, 3, 1, 0] rfl) ?_
  intro n_1 v_1 hi_1 ih_1 H locs hP hD hS ls hl
  obtain ⟨j_2, i_3⟩ := v_1
  replace vc := vc n_1 j_2 i_3 hi_1
  have hP : va_P D vwCl [] H := hP
  have hD : va_D A [] := hD
  have hl : lv_has ls 6 [(0, .long p0), (2, .int p1), (3, .long j_2), (5, .int i_3)] := hl
  refine lv_iload hx hb dX9_power_5 (lv_at hl 3 rfl) ?_
  refine lv_iload_n hx hb dX9_power_7 rfl (lv_at hl 1 rfl) ?_
  refine lv_icmp_ge (tgt := 21) hx hb dX9_power_8 (by decide) (fun c_ => ?_) (fun c_ => ?_)
  · replace vc := vc.1 c_
    refine lv_lload_n hx hb dX9_power_21 rfl (lv_at hl 2 rfl) ?_
    exact W.lret (v := j_2) hx hb hr (fun t ht hW => ⟨⟨j_2, (), rfl, vc, QB_mk (hP.sub [] rfl) (hD.sub [] rfl rfl) ht⟩, hS.F ht⟩) hS.2.2 dX9_power_22
  · replace vc := vc.2 c_
    refine lv_lload_n hx hb dX9_power_11 rfl (lv_at hl 2 rfl) ?_
    refine lv_lload_n hx hb dX9_power_12 rfl (lv_at hl 0 rfl) ?_
    refine lv_lmul hx hb dX9_power_13 ?_
    refine lv_topl (fun x_4 ex_4 => ?_)
    replace vc := vc x_4 ex_4
    refine lv_lstore_n (lv' := [(3, .long x_4), (0, .long p0), (2, .int p1), (5, .int i_3)]) hx hb dX9_power_14 rfl hl (by decide) rfl (fun ls hl => ?_)
    obtain ⟨x_5, ex_5⟩ : ∃ y_ : Int32, y_ = (i_3 + (1 : Int32)) := ⟨_, rfl⟩
    replace vc := vc x_5 ex_5
    refine lv_iinc (v := x_5) (lv' := [(5, .int x_5), (3, .long x_4), (0, .long p0), (2, .int p1)]) hx hb dX9_power_15 hl (k := 3) rfl (by rw [ex_5]; rfl) (by decide) rfl (fun ls hl => ?_)
    refine lv_goto (tgt := 5) hx hb dX9_power_18 (by decide) ?_
    obtain ⟨n1_, hlt_, hi_⟩ := vc
    exact ih_1 n1_ (x_4, x_5) hlt_ hi_ _ _ hP hD hS ls (lv_sub hl [2, 3, 1, 0] rfl)

theorem mwX9_moths_1 : Cond.constantLong RX9 256 (16) ∈ wsX9_moths := List.mem_of_getElem? (i := 1) rfl
theorem mwX9_moths_2 : Cond.constantLong RX9 258 (10) ∈ wsX9_moths := List.mem_of_getElem? (i := 2) rfl
theorem mwX9_moths_3 : Cond.constantLong RX9 260 (-1000000000000000002) ∈ wsX9_moths := List.mem_of_getElem? (i := 3) rfl
def KX9_moths (l : Launch) (D : va_G) (cI cZ : ClassId) (P : Int32 → Int32 → Int32 → Int32 → Int32 → Prop) (Q : Int32 → Int32 → Int32 → Int32 → Int32 → Int64 → Prop) : Prop := ∀ (sz : Nat) (h_this h_this_wool h_this_stitches h_this_place h_this_sightSundays h_this_sightWool h_this_pad h_this_act h_this_which h_this_much h_this_had h_this_rows h_this_groups h_this_covers h_this_byWool h_this_wins h_this_kept h_this_isKept : Nat) (p0 : Int32) (p1 : Int32) (p2 : Int32) (p3 : Int32) (p4 : Int32) (v_present : Int32) (v_chest : Int32) (v_years : Int32) (v_sights : Int32) (v_padMany : Int32) (v_acts : Int32) (v_sweptMany : Int32) (v_badAct : Int32) (v_badWhy : Int32) (v_sweptAct : Int32) (v_sweptWhich : Int32) (v_keptAt : Int32) (v_isWriting : Int32), P p0 p1 p2 p3 p4 → ML l yX9_moths wsX9_moths ({ frames := 1, cells := 0, slots := 0, locals := 30 }) [.ref h_this, .int p0, .int p1, .int p2, .int p3, .int p4] D cI cZ sz [(h_this, .inr (9, [.int v_present, .ref h_this_wool, .ref h_this_stitches, .ref h_this_place, .int v_chest, .int v_years, .ref h_this_sightSundays, .ref h_this_sightWool, .int v_sights, .ref h_this_pad, .int v_padMany, .ref h_this_act, .ref h_this_which, .ref h_this_much, .int v_acts, .int v_sweptMany, .ref h_this_had, .int v_badAct, .int v_badWhy, .int v_sweptAct, .int v_sweptWhich, .ref h_this_rows, .ref h_this_groups, .ref h_this_covers, .ref h_this_byWool, .ref h_this_wins, .ref h_this_kept, .ref h_this_isKept, .int v_keptAt, .int v_isWriting]))] (fun r (u : Unit) => Q p0 p1 p2 p3 p4 r ) (fun u => [(h_this, .inr (9, [.int v_present, .ref h_this_wool, .ref h_this_stitches, .ref h_this_place, .int v_chest, .int v_years, .ref h_this_sightSundays, .ref h_this_sightWool, .int v_sights, .ref h_this_pad, .int v_padMany, .ref h_this_act, .ref h_this_which, .ref h_this_much, .int v_acts, .int v_sweptMany, .ref h_this_had, .int v_badAct, .int v_badWhy, .int v_sweptAct, .int v_sweptWhich, .ref h_this_rows, .ref h_this_groups, .ref h_this_covers, .ref h_this_byWool, .ref h_this_wins, .ref h_this_kept, .ref h_this_isKept, .int v_keptAt, .int v_isWriting]))]) 0 0
set_option maxHeartbeats 4000000 in
set_option maxRecDepth 100000 in
theorem walkX9_moths {l : Launch} {D : va_G} {cI cZ : ClassId} {PX9_moths : Int32 → Int32 → Int32 → Int32 → Int32 → Prop} {QX9_moths : Int32 → Int32 → Int32 → Int32 → Int32 → Int64 → Prop} {PX9_in : Int64 → Int64 → Int64 → Prop} {QX9_in : Int64 → Int64 → Int64 → Int32 → Prop} {PX9_power : Int64 → Int32 → Prop} {QX9_power : Int64 → Int32 → Int64 → Prop} {PX9_lowest : Int64 → Int64 → Int32 → Prop} {QX9_lowest : Int64 → Int64 → Int32 → Int64 → Prop} (kX9_in : KX9_in l D cI cZ PX9_in QX9_in) (kX9_power : KX9_power l D cI cZ PX9_power QX9_power) (kX9_lowest : KX9_lowest l D cI cZ PX9_lowest QX9_lowest) (hvc : ∀ (p0 : Int32) (p1 : Int32) (p2 : Int32) (p3 : Int32) (p4 : Int32), PX9_moths p0 p1 p2 p3 p4 → (PX9_in (p0.toInt64) (0 : Int64) (16 : Int64) ∧ (∀ r_1 : Int32, QX9_in (p0.toInt64) (0 : Int64) (16 : Int64) r_1 → ((r_1 = 0 → (QX9_moths p0 p1 p2 p3 p4 (-1000000000000000002 : Int64) )) ∧ (¬ r_1 = 0 → (PX9_in (p1.toInt64) (0 : Int64) (16 : Int64) ∧ (∀ r_2 : Int32, QX9_in (p1.toInt64) (0 : Int64) (16 : Int64) r_2 → ((r_2 = 0 → (QX9_moths p0 p1 p2 p3 p4 (-1000000000000000002 : Int64) )) ∧ (¬ r_2 = 0 → (PX9_in ((p0 * p1).toInt64) (0 : Int64) (16 : Int64) ∧ (∀ r_3 : Int32, QX9_in ((p0 * p1).toInt64) (0 : Int64) (16 : Int64) r_3 → ((r_3 = 0 → (QX9_moths p0 p1 p2 p3 p4 (-1000000000000000002 : Int64) )) ∧ (¬ r_3 = 0 → (PX9_in (p2.toInt64) (0 : Int64) (10 : Int64) ∧ (∀ r_4 : Int32, QX9_in (p2.toInt64) (0 : Int64) (10 : Int64) r_4 → ((r_4 = 0 → (QX9_moths p0 p1 p2 p3 p4 (-1000000000000000002 : Int64) )) ∧ (¬ r_4 = 0 → (PX9_in (p3.toInt64) (0 : Int64) (1 : Int64) ∧ (∀ r_5 : Int32, QX9_in (p3.toInt64) (0 : Int64) (1 : Int64) r_5 → ((r_5 = 0 → (QX9_moths p0 p1 p2 p3 p4 (-1000000000000000002 : Int64) )) ∧ (¬ r_5 = 0 → (PX9_in (p4.toInt64) (0 : Int64) (1 : Int64) ∧ (∀ r_6 : Int32, QX9_in (p4.toInt64) (0 : Int64) (1 : Int64) r_6 → ((¬ r_6 = 0 → (PX9_power (10 : Int64) p1 ∧ (∀ r_7 : Int64, QX9_power (10 : Int64) p1 r_7 → (PX9_power ((10 : Int64) - (p2.toInt64)) p1 ∧ (∀ r_8 : Int64, QX9_power ((10 : Int64) - (p2.toInt64)) p1 r_8 → ((¬ p3 = 0 → (PX9_lowest ((p0.toInt64) * r_8) r_7 p4 ∧ (∀ r_9 : Int64, QX9_lowest ((p0.toInt64) * r_8) r_7 p4 r_9 → (QX9_moths p0 p1 p2 p3 p4 r_9 )))) ∧ (p3 = 0 → (PX9_power (r_7 - r_8) p0 ∧ (∀ r_10 : Int64, QX9_power (r_7 - r_8) p0 r_10 → (PX9_power r_7 p0 ∧ (∀ r_11 : Int64, QX9_power r_7 p0 r_11 → (PX9_lowest r_10 r_11 p4 ∧ (∀ r_12 : Int64, QX9_lowest r_10 r_11 p4 r_12 → (QX9_moths p0 p1 p2 p3 p4 r_12 )))))))))))))) ∧ (r_6 = 0 → (QX9_moths p0 p1 p2 p3 p4 (-1000000000000000002 : Int64) )))))))))))))))))))))))))) : KX9_moths l D cI cZ PX9_moths QX9_moths := by
  intro sz h_this h_this_wool h_this_stitches h_this_place h_this_sightSundays h_this_sightWool h_this_pad h_this_act h_this_which h_this_much h_this_had h_this_rows h_this_groups h_this_covers h_this_byWool h_this_wins h_this_kept h_this_isKept p0 p1 p2 p3 p4 v_present v_chest v_years v_sights v_padMany v_acts v_sweptMany v_badAct v_badWhy v_sweptAct v_sweptWhich v_keptAt v_isWriting hpre
  have vc := hvc p0 p1 p2 p3 p4 hpre
  clear hvc
  refine Met.ofW (cc := cX9_moths) (maxL := 10) (ret := (some .long)) (by decide) rfl ?_
  intro p e s m args below meth c s₁ B hml hv
  obtain ⟨rfl, hsz, hP, hK, hD0⟩ := hv
  have hx := B.exec
  have hb := B.bytes
  have hr := B.returns
  have hts := atoms_spec (ws := wsX9_moths) B.pre
  have hown : s.vm.findClass RX9 = some m.cls := findClass_of_methodNamed B.named
  have hlocks := B.notSynchronized
  subst hsz
  have hD := hD0.self (sz := s.heap.size)
  generalize hAe : va_A [(h_this, .inr (9, [.int v_present, .ref h_this_wool, .ref h_this_stitches, .ref h_this_place, .int v_chest, .int v_years, .ref h_this_sightSundays, .ref h_this_sightWool, .int v_sights, .ref h_this_pad, .int v_padMany, .ref h_this_act, .ref h_this_which, .ref h_this_much, .int v_acts, .int v_sweptMany, .ref h_this_had, .int v_badAct, .int v_badWhy, .int v_sweptAct, .int v_sweptWhich, .ref h_this_rows, .ref h_this_groups, .ref h_this_covers, .ref h_this_byWool, .ref h_this_wins, .ref h_this_kept, .ref h_this_isKept, .int v_keptAt, .int v_isWriting]))] s.heap.size = A at hD ⊢
  have hA : ∀ q : Nat, s.heap.size ≤ q → A q := fun q h => by rw [← hAe]; exact Or.inr h
  have hS : va_S A s.heap s.heap [] := va_S.rf
  have hP : va_P D vwCl [(h_this, .inr (9, [.int v_present, .ref h_this_wool, .ref h_this_stitches, .ref h_this_place, .int v_chest, .int v_years, .ref h_this_sightSundays, .ref h_this_sightWool, .int v_sights, .ref h_this_pad, .int v_padMany, .ref h_this_act, .ref h_this_which, .ref h_this_much, .int v_acts, .int v_sweptMany, .ref h_this_had, .int v_badAct, .int v_badWhy, .int v_sweptAct, .int v_sweptWhich, .ref h_this_rows, .ref h_this_groups, .ref h_this_covers, .ref h_this_byWool, .ref h_this_wins, .ref h_this_kept, .ref h_this_isKept, .int v_keptAt, .int v_isWriting]))] s.heap := hP
  have hl := lv_entry ([.ref h_this, .int p0, .int p1, .int p2, .int p3, .int p4]) (n := 10) (Nat.le_of_ble_eq_true rfl)
  rw [lg_entry_eq]
  generalize (lg_sl ([.ref h_this, .int p0, .int p1, .int p2, .int p3, .int p4]) ++ List.replicate (10 - (lg_sl ([.ref h_this, .int p0, .int p1, .int p2, .int p3, .int p4])).length) Slot.unset).toArray = ls at hl ⊢
  have hl : lv_has ls 10 [(0, .ref h_this), (1, .int p0), (2, .int p1), (3, .int p2), (4, .int p3), (5, .int p4)] := hl
  refine lv_iload_n hx hb dX9_moths_0 rfl (lv_at hl 1 rfl) ?_
  refine lv_i2l hx hb dX9_moths_1 rfl ?_
  refine lv_lconst (v := (0 : Int64)) hx hb dX9_moths_2 (by decide) ?_
  refine lv_ldc2 (v := (16 : Int64)) hx hb hown (hts _ mwX9_moths_1) dX9_moths_3 ?_
  refine kj0_i (rest := []) (kS ⟨hx, hb, hml, hown, hts⟩ (kX9_in _ (p0.toInt64) (0 : Int64) (16 : Int64) vc.1) (va_cwS 3 hts gX9_moths_X9_in rfl rfl rfl (by decide +kernel) ⟨(Nat.le_of_ble_eq_true rfl), (Nat.le_of_ble_eq_true rfl)⟩) hK rfl rfl hl.1 (Nat.le_of_ble_eq_true rfl) dX9_moths_6 ⟨(Nat.le_of_ble_eq_true rfl), (Nat.le_of_ble_eq_true rfl)⟩) hP hS hA (fun r_1 H locs hq_ hP hS => ?_)
  replace vc := vc.2 r_1 hq_
  have hP : va_P D vwCl [(h_this, .inr (9, [.int v_present, .ref h_this_wool, .ref h_this_stitches, .ref h_this_place, .int v_chest, .int v_years, .ref h_this_sightSundays, .ref h_this_sightWool, .int v_sights, .ref h_this_pad, .int v_padMany, .ref h_this_act, .ref h_this_which, .ref h_this_much, .int v_acts, .int v_sweptMany, .ref h_this_had, .int v_badAct, .int v_badWhy, .int v_sweptAct, .int v_sweptWhich, .ref h_this_rows, .ref h_this_groups, .ref h_this_covers, .ref h_this_byWool, .ref h_this_wins, .ref h_this_kept, .ref h_this_isKept, .int v_keptAt, .int v_isWriting]))] H := hP
  refine lv_if_eq (tgt := 72) hx hb dX9_moths_9 (by decide) (fun c_ => ?_) (fun c_ => ?_)
  · replace vc := vc.1 c_
    refine lv_ldc2 (v := (-1000000000000000002 : Int64)) hx hb hown (hts _ mwX9_moths_3) dX9_moths_72 ?_
    exact W.lret (v := (-1000000000000000002 : Int64)) hx hb hr (fun t ht hW => ⟨⟨(-1000000000000000002 : Int64), (), rfl, vc, QB_mk (hP.sub [0] rfl) (hD.sub [0] rfl rfl) ht⟩, hS.F ht⟩) hS.2.2 dX9_moths_75
  · replace vc := vc.2 c_
    refine lv_iload_n hx hb dX9_moths_12 rfl (lv_at hl 2 rfl) ?_
    refine lv_i2l hx hb dX9_moths_13 rfl ?_
    refine lv_lconst (v := (0 : Int64)) hx hb dX9_moths_14 (by decide) ?_
    refine lv_ldc2 (v := (16 : Int64)) hx hb hown (hts _ mwX9_moths_1) dX9_moths_15 ?_
    refine kj0_i (rest := []) (kS ⟨hx, hb, hml, hown, hts⟩ (kX9_in _ (p1.toInt64) (0 : Int64) (16 : Int64) vc.1) (va_cwS 3 hts gX9_moths_X9_in rfl rfl rfl (by decide +kernel) ⟨(Nat.le_of_ble_eq_true rfl), (Nat.le_of_ble_eq_true rfl)⟩) hK rfl rfl hl.1 (Nat.le_of_ble_eq_true rfl) dX9_moths_18 ⟨(Nat.le_of_ble_eq_true rfl), (Nat.le_of_ble_eq_true rfl)⟩) hP hS hA (fun r_2 H locs hq_ hP hS => ?_)
    replace vc := vc.2 r_2 hq_
    have hP : va_P D vwCl [(h_this, .inr (9, [.int v_present, .ref h_this_wool, .ref h_this_stitches, .ref h_this_place, .int v_chest, .int v_years, .ref h_this_sightSundays, .ref h_this_sightWool, .int v_sights, .ref h_this_pad, .int v_padMany, .ref h_this_act, .ref h_this_which, .ref h_this_much, .int v_acts, .int v_sweptMany, .ref h_this_had, .int v_badAct, .int v_badWhy, .int v_sweptAct, .int v_sweptWhich, .ref h_this_rows, .ref h_this_groups, .ref h_this_covers, .ref h_this_byWool, .ref h_this_wins, .ref h_this_kept, .ref h_this_isKept, .int v_keptAt, .int v_isWriting]))] H := hP
    refine lv_if_eq (tgt := 72) hx hb dX9_moths_21 (by decide) (fun c_ => ?_) (fun c_ => ?_)
    · replace vc := vc.1 c_
      refine lv_ldc2 (v := (-1000000000000000002 : Int64)) hx hb hown (hts _ mwX9_moths_3) dX9_moths_72 ?_
      exact W.lret (v := (-1000000000000000002 : Int64)) hx hb hr (fun t ht hW => ⟨⟨(-1000000000000000002 : Int64), (), rfl, vc, QB_mk (hP.sub [0] rfl) (hD.sub [0] rfl rfl) ht⟩, hS.F ht⟩) hS.2.2 dX9_moths_75
    · replace vc := vc.2 c_
      refine lv_iload_n hx hb dX9_moths_24 rfl (lv_at hl 1 rfl) ?_
      refine lv_iload_n hx hb dX9_moths_25 rfl (lv_at hl 2 rfl) ?_
      refine lv_imul hx hb dX9_moths_26 ?_
      refine lv_i2l hx hb dX9_moths_27 rfl ?_
      refine lv_lconst (v := (0 : Int64)) hx hb dX9_moths_28 (by decide) ?_
      refine lv_ldc2 (v := (16 : Int64)) hx hb hown (hts _ mwX9_moths_1) dX9_moths_29 ?_
      refine kj0_i (rest := []) (kS ⟨hx, hb, hml, hown, hts⟩ (kX9_in _ ((p0 * p1).toInt64) (0 : Int64) (16 : Int64) vc.1) (va_cwS 3 hts gX9_moths_X9_in rfl rfl rfl (by decide +kernel) ⟨(Nat.le_of_ble_eq_true rfl), (Nat.le_of_ble_eq_true rfl)⟩) hK rfl rfl hl.1 (Nat.le_of_ble_eq_true rfl) dX9_moths_32 ⟨(Nat.le_of_ble_eq_true rfl), (Nat.le_of_ble_eq_true rfl)⟩) hP hS hA (fun r_3 H locs hq_ hP hS => ?_)
      replace vc := vc.2 r_3 hq_
      have hP : va_P D vwCl [(h_this, .inr (9, [.int v_present, .ref h_this_wool, .ref h_this_stitches, .ref h_this_place, .int v_chest, .int v_years, .ref h_this_sightSundays, .ref h_this_sightWool, .int v_sights, .ref h_this_pad, .int v_padMany, .ref h_this_act, .ref h_this_which, .ref h_this_much, .int v_acts, .int v_sweptMany, .ref h_this_had, .int v_badAct, .int v_badWhy, .int v_sweptAct, .int v_sweptWhich, .ref h_this_rows, .ref h_this_groups, .ref h_this_covers, .ref h_this_byWool, .ref h_this_wins, .ref h_this_kept, .ref h_this_isKept, .int v_keptAt, .int v_isWriting]))] H := hP
      refine lv_if_eq (tgt := 72) hx hb dX9_moths_35 (by decide) (fun c_ => ?_) (fun c_ => ?_)
      · replace vc := vc.1 c_
        refine lv_ldc2 (v := (-1000000000000000002 : Int64)) hx hb hown (hts _ mwX9_moths_3) dX9_moths_72 ?_
        exact W.lret (v := (-1000000000000000002 : Int64)) hx hb hr (fun t ht hW => ⟨⟨(-1000000000000000002 : Int64), (), rfl, vc, QB_mk (hP.sub [0] rfl) (hD.sub [0] rfl rfl) ht⟩, hS.F ht⟩) hS.2.2 dX9_moths_75
      · replace vc := vc.2 c_
        refine lv_iload_n hx hb dX9_moths_38 rfl (lv_at hl 3 rfl) ?_
        refine lv_i2l hx hb dX9_moths_39 rfl ?_
        refine lv_lconst (v := (0 : Int64)) hx hb dX9_moths_40 (by decide) ?_
        refine lv_ldc2 (v := (10 : Int64)) hx hb hown (hts _ mwX9_moths_2) dX9_moths_41 ?_
        refine kj0_i (rest := []) (kS ⟨hx, hb, hml, hown, hts⟩ (kX9_in _ (p2.toInt64) (0 : Int64) (10 : Int64) vc.1) (va_cwS 3 hts gX9_moths_X9_in rfl rfl rfl (by decide +kernel) ⟨(Nat.le_of_ble_eq_true rfl), (Nat.le_of_ble_eq_true rfl)⟩) hK rfl rfl hl.1 (Nat.le_of_ble_eq_true rfl) dX9_moths_44 ⟨(Nat.le_of_ble_eq_true rfl), (Nat.le_of_ble_eq_true rfl)⟩) hP hS hA (fun r_4 H locs hq_ hP hS => ?_)
        replace vc := vc.2 r_4 hq_
        have hP : va_P D vwCl [(h_this, .inr (9, [.int v_present, .ref h_this_wool, .ref h_this_stitches, .ref h_this_place, .int v_chest, .int v_years, .ref h_this_sightSundays, .ref h_this_sightWool, .int v_sights, .ref h_this_pad, .int v_padMany, .ref h_this_act, .ref h_this_which, .ref h_this_much, .int v_acts, .int v_sweptMany, .ref h_this_had, .int v_badAct, .int v_badWhy, .int v_sweptAct, .int v_sweptWhich, .ref h_this_rows, .ref h_this_groups, .ref h_this_covers, .ref h_this_byWool, .ref h_this_wins, .ref h_this_kept, .ref h_this_isKept, .int v_keptAt, .int v_isWriting]))] H := hP
        refine lv_if_eq (tgt := 72) hx hb dX9_moths_47 (by decide) (fun c_ => ?_) (fun c_ => ?_)
        · replace vc := vc.1 c_
          refine lv_ldc2 (v := (-1000000000000000002 : Int64)) hx hb hown (hts _ mwX9_moths_3) dX9_moths_72 ?_
          exact W.lret (v := (-1000000000000000002 : Int64)) hx hb hr (fun t ht hW => ⟨⟨(-1000000000000000002 : Int64), (), rfl, vc, QB_mk (hP.sub [0] rfl) (hD.sub [0] rfl rfl) ht⟩, hS.F ht⟩) hS.2.2 dX9_moths_75
        · replace vc := vc.2 c_
          refine lv_iload hx hb dX9_moths_50 (lv_at hl 4 rfl) ?_
          refine lv_i2l hx hb dX9_moths_52 rfl ?_
          refine lv_lconst (v := (0 : Int64)) hx hb dX9_moths_53 (by decide) ?_
          refine lv_lconst (v := (1 : Int64)) hx hb dX9_moths_54 (by decide) ?_
          refine kj0_i (rest := []) (kS ⟨hx, hb, hml, hown, hts⟩ (kX9_in _ (p3.toInt64) (0 : Int64) (1 : Int64) vc.1) (va_cwS 3 hts gX9_moths_X9_in rfl rfl rfl (by decide +kernel) ⟨(Nat.le_of_ble_eq_true rfl), (Nat.le_of_ble_eq_true rfl)⟩) hK rfl rfl hl.1 (Nat.le_of_ble_eq_true rfl) dX9_moths_55 ⟨(Nat.le_of_ble_eq_true rfl), (Nat.le_of_ble_eq_true rfl)⟩) hP hS hA (fun r_5 H locs hq_ hP hS => ?_)
          replace vc := vc.2 r_5 hq_
          have hP : va_P D vwCl [(h_this, .inr (9, [.int v_present, .ref h_this_wool, .ref h_this_stitches, .ref h_this_place, .int v_chest, .int v_years, .ref h_this_sightSundays, .ref h_this_sightWool, .int v_sights, .ref h_this_pad, .int v_padMany, .ref h_this_act, .ref h_this_which, .ref h_this_much, .int v_acts, .int v_sweptMany, .ref h_this_had, .int v_badAct, .int v_badWhy, .int v_sweptAct, .int v_sweptWhich, .ref h_this_rows, .ref h_this_groups, .ref h_this_covers, .ref h_this_byWool, .ref h_this_wins, .ref h_this_kept, .ref h_this_isKept, .int v_keptAt, .int v_isWriting]))] H := hP
          refine lv_if_eq (tgt := 72) hx hb dX9_moths_58 (by decide) (fun c_ => ?_) (fun c_ => ?_)
          · replace vc := vc.1 c_
            refine lv_ldc2 (v := (-1000000000000000002 : Int64)) hx hb hown (hts _ mwX9_moths_3) dX9_moths_72 ?_
            exact W.lret (v := (-1000000000000000002 : Int64)) hx hb hr (fun t ht hW => ⟨⟨(-1000000000000000002 : Int64), (), rfl, vc, QB_mk (hP.sub [0] rfl) (hD.sub [0] rfl rfl) ht⟩, hS.F ht⟩) hS.2.2 dX9_moths_75
          · replace vc := vc.2 c_
            refine lv_iload hx hb dX9_moths_61 (lv_at hl 5 rfl) ?_
            refine lv_i2l hx hb dX9_moths_63 rfl ?_
            refine lv_lconst (v := (0 : Int64)) hx hb dX9_moths_64 (by decide) ?_
            refine lv_lconst (v := (1 : Int64)) hx hb dX9_moths_65 (by decide) ?_
            refine kj0_i (rest := []) (kS ⟨hx, hb, hml, hown, hts⟩ (kX9_in _ (p4.toInt64) (0 : Int64) (1 : Int64) vc.1) (va_cwS 3 hts gX9_moths_X9_in rfl rfl rfl (by decide +kernel) ⟨(Nat.le_of_ble_eq_true rfl), (Nat.le_of_ble_eq_true rfl)⟩) hK rfl rfl hl.1 (Nat.le_of_ble_eq_true rfl) dX9_moths_66 ⟨(Nat.le_of_ble_eq_true rfl), (Nat.le_of_ble_eq_true rfl)⟩) hP hS hA (fun r_6 H locs hq_ hP hS => ?_)
            replace vc := vc.2 r_6 hq_
            have hP : va_P D vwCl [(h_this, .inr (9, [.int v_present, .ref h_this_wool, .ref h_this_stitches, .ref h_this_place, .int v_chest, .int v_years, .ref h_this_sightSundays, .ref h_this_sightWool, .int v_sights, .ref h_this_pad, .int v_padMany, .ref h_this_act, .ref h_this_which, .ref h_this_much, .int v_acts, .int v_sweptMany, .ref h_this_had, .int v_badAct, .int v_badWhy, .int v_sweptAct, .int v_sweptWhich, .ref h_this_rows, .ref h_this_groups, .ref h_this_covers, .ref h_this_byWool, .ref h_this_wins, .ref h_this_kept, .ref h_this_isKept, .int v_keptAt, .int v_isWriting]))] H := hP
            refine lv_if_ne (tgt := 76) hx hb dX9_moths_69 (by decide) (fun c_ => ?_) (fun c_ => ?_)
            · replace vc := vc.1 c_
              refine lv_ldc2 (v := (10 : Int64)) hx hb hown (hts _ mwX9_moths_2) dX9_moths_76 ?_
              refine lv_iload_n hx hb dX9_moths_79 rfl (lv_at hl 2 rfl) ?_
              refine kj0_l (rest := []) (kS ⟨hx, hb, hml, hown, hts⟩ (kX9_power _ (10 : Int64) p1 vc.1) (va_cwS 2 hts gX9_moths_X9_power rfl rfl rfl (by decide +kernel) ⟨(Nat.le_of_ble_eq_true rfl), (Nat.le_of_ble_eq_true rfl)⟩) hK rfl rfl hl.1 (Nat.le_of_ble_eq_true rfl) dX9_moths_80 ⟨(Nat.le_of_ble_eq_true rfl), (Nat.le_of_ble_eq_true rfl)⟩) hP hS hA (fun r_7 H locs hq_ hP hS => ?_)
              replace vc := vc.2 r_7 hq_
              have hP : va_P D vwCl [(h_this, .inr (9, [.int v_present, .ref h_this_wool, .ref h_this_stitches, .ref h_this_place, .int v_chest, .int v_years, .ref h_this_sightSundays, .ref h_this_sightWool, .int v_sights, .ref h_this_pad, .int v_padMany, .ref h_this_act, .ref h_this_which, .ref h_this_much, .int v_acts, .int v_sweptMany, .ref h_this_had, .int v_badAct, .int v_badWhy, .int v_sweptAct, .int v_sweptWhich, .ref h_this_rows, .ref h_this_groups, .ref h_this_covers, .ref h_this_byWool, .ref h_this_wins, .ref h_this_kept, .ref h_this_isKept, .int v_keptAt, .int v_isWriting]))] H := hP
              refine lv_lstore (lv' := [(6, .long r_7), (0, .ref h_this), (1, .int p0), (2, .int p1), (3, .int p2), (4, .int p3), (5, .int p4)]) hx hb dX9_moths_83 hl (by decide) rfl (fun ls hl => ?_)
              refine lv_ldc2 (v := (10 : Int64)) hx hb hown (hts _ mwX9_moths_2) dX9_moths_85 ?_
              refine lv_iload_n hx hb dX9_moths_88 rfl (lv_at hl 4 rfl) ?_
              refine lv_i2l hx hb dX9_moths_89 rfl ?_
              refine lv_lsub hx hb dX9_moths_90 ?_
              refine lv_iload_n hx hb dX9_moths_91 rfl (lv_at hl 3 rfl) ?_
              refine kj0_l (rest := []) (kS ⟨hx, hb, hml, hown, hts⟩ (kX9_power _ ((10 : Int64) - (p2.toInt64)) p1 vc.1) (va_cwS 2 hts gX9_moths_X9_power rfl rfl rfl (by decide +kernel) ⟨(Nat.le_of_ble_eq_true rfl), (Nat.le_of_ble_eq_true rfl)⟩) hK rfl rfl hl.1 (Nat.le_of_ble_eq_true rfl) dX9_moths_92 ⟨(Nat.le_of_ble_eq_true rfl), (Nat.le_of_ble_eq_true rfl)⟩) hP hS hA (fun r_8 H locs hq_ hP hS => ?_)
              replace vc := vc.2 r_8 hq_
              have hP : va_P D vwCl [(h_this, .inr (9, [.int v_present, .ref h_this_wool, .ref h_this_stitches, .ref h_this_place, .int v_chest, .int v_years, .ref h_this_sightSundays, .ref h_this_sightWool, .int v_sights, .ref h_this_pad, .int v_padMany, .ref h_this_act, .ref h_this_which, .ref h_this_much, .int v_acts, .int v_sweptMany, .ref h_this_had, .int v_badAct, .int v_badWhy, .int v_sweptAct, .int v_sweptWhich, .ref h_this_rows, .ref h_this_groups, .ref h_this_covers, .ref h_this_byWool, .ref h_this_wins, .ref h_this_kept, .ref h_this_isKept, .int v_keptAt, .int v_isWriting]))] H := hP
              refine lv_lstore (lv' := [(8, .long r_8), (6, .long r_7), (0, .ref h_this), (1, .int p0), (2, .int p1), (3, .int p2), (4, .int p3), (5, .int p4)]) hx hb dX9_moths_95 hl (by decide) rfl (fun ls hl => ?_)
              refine lv_iload hx hb dX9_moths_97 (lv_at hl 6 rfl) ?_
              refine lv_if_ne (tgt := 125) hx hb dX9_moths_99 (by decide) (fun c_ => ?_) (fun c_ => ?_)
              · replace vc := vc.1 c_
                refine lv_iload_n hx hb dX9_moths_125 rfl (lv_at hl 3 rfl) ?_
                refine lv_i2l hx hb dX9_moths_126 rfl ?_
                refine lv_lload hx hb dX9_moths_127 (lv_at hl 0 rfl) ?_
                refine lv_lmul hx hb dX9_moths_129 ?_
                refine lv_lload hx hb dX9_moths_130 (lv_at hl 1 rfl) ?_
                refine lv_iload hx hb dX9_moths_132 (lv_at hl 7 rfl) ?_
                refine kj0_l (rest := []) (kS ⟨hx, hb, hml, hown, hts⟩ (kX9_lowest _ ((p0.toInt64) * r_8) r_7 p4 vc.1) (va_cwS 3 hts gX9_moths_X9_lowest rfl rfl rfl (by decide +kernel) ⟨(Nat.le_of_ble_eq_true rfl), (Nat.le_of_ble_eq_true rfl)⟩) hK rfl rfl hl.1 (Nat.le_of_ble_eq_true rfl) dX9_moths_134 ⟨(Nat.le_of_ble_eq_true rfl), (Nat.le_of_ble_eq_true rfl)⟩) hP hS hA (fun r_9 H locs hq_ hP hS => ?_)
                replace vc := vc.2 r_9 hq_
                have hP : va_P D vwCl [(h_this, .inr (9, [.int v_present, .ref h_this_wool, .ref h_this_stitches, .ref h_this_place, .int v_chest, .int v_years, .ref h_this_sightSundays, .ref h_this_sightWool, .int v_sights, .ref h_this_pad, .int v_padMany, .ref h_this_act, .ref h_this_which, .ref h_this_much, .int v_acts, .int v_sweptMany, .ref h_this_had, .int v_badAct, .int v_badWhy, .int v_sweptAct, .int v_sweptWhich, .ref h_this_rows, .ref h_this_groups, .ref h_this_covers, .ref h_this_byWool, .ref h_this_wins, .ref h_this_kept, .ref h_this_isKept, .int v_keptAt, .int v_isWriting]))] H := hP
                exact W.lret (v := r_9) hx hb hr (fun t ht hW => ⟨⟨r_9, (), rfl, vc, QB_mk (hP.sub [0] rfl) (hD.sub [0] rfl rfl) ht⟩, hS.F ht⟩) hS.2.2 dX9_moths_137
              · replace vc := vc.2 c_
                refine lv_lload hx hb dX9_moths_102 (lv_at hl 1 rfl) ?_
                refine lv_lload hx hb dX9_moths_104 (lv_at hl 0 rfl) ?_
                refine lv_lsub hx hb dX9_moths_106 ?_
                refine lv_iload_n hx hb dX9_moths_107 rfl (lv_at hl 3 rfl) ?_
                refine kj0_l (rest := []) (kS ⟨hx, hb, hml, hown, hts⟩ (kX9_power _ (r_7 - r_8) p0 vc.1) (va_cwS 2 hts gX9_moths_X9_power rfl rfl rfl (by decide +kernel) ⟨(Nat.le_of_ble_eq_true rfl), (Nat.le_of_ble_eq_true rfl)⟩) hK rfl rfl hl.1 (Nat.le_of_ble_eq_true rfl) dX9_moths_108 ⟨(Nat.le_of_ble_eq_true rfl), (Nat.le_of_ble_eq_true rfl)⟩) hP hS hA (fun r_10 H locs hq_ hP hS => ?_)
                replace vc := vc.2 r_10 hq_
                have hP : va_P D vwCl [(h_this, .inr (9, [.int v_present, .ref h_this_wool, .ref h_this_stitches, .ref h_this_place, .int v_chest, .int v_years, .ref h_this_sightSundays, .ref h_this_sightWool, .int v_sights, .ref h_this_pad, .int v_padMany, .ref h_this_act, .ref h_this_which, .ref h_this_much, .int v_acts, .int v_sweptMany, .ref h_this_had, .int v_badAct, .int v_badWhy, .int v_sweptAct, .int v_sweptWhich, .ref h_this_rows, .ref h_this_groups, .ref h_this_covers, .ref h_this_byWool, .ref h_this_wins, .ref h_this_kept, .ref h_this_isKept, .int v_keptAt, .int v_isWriting]))] H := hP
                refine lv_lload hx hb dX9_moths_111 (lv_at hl 1 rfl) ?_
                refine lv_iload_n hx hb dX9_moths_113 rfl (lv_at hl 3 rfl) ?_
                refine kj0_l (rest := [.long r_10]) (kS ⟨hx, hb, hml, hown, hts⟩ (kX9_power _ r_7 p0 vc.1) (va_cwS 2 hts gX9_moths_X9_power rfl rfl rfl (by decide +kernel) ⟨(Nat.le_of_ble_eq_true rfl), (Nat.le_of_ble_eq_true rfl)⟩) hK rfl rfl hl.1 (Nat.le_of_ble_eq_true rfl) dX9_moths_114 ⟨(Nat.le_of_ble_eq_true rfl), (Nat.le_of_ble_eq_true rfl)⟩) hP hS hA (fun r_11 H locs hq_ hP hS => ?_)
                replace vc := vc.2 r_11 hq_
                have hP : va_P D vwCl [(h_this, .inr (9, [.int v_present, .ref h_this_wool, .ref h_this_stitches, .ref h_this_place, .int v_chest, .int v_years, .ref h_this_sightSundays, .ref h_this_sightWool, .int v_sights, .ref h_this_pad, .int v_padMany, .ref h_this_act, .ref h_this_which, .ref h_this_much, .int v_acts, .int v_sweptMany, .ref h_this_had, .int v_badAct, .int v_badWhy, .int v_sweptAct, .int v_sweptWhich, .ref h_this_rows, .ref h_this_groups, .ref h_this_covers, .ref h_this_byWool, .ref h_this_wins, .ref h_this_kept, .ref h_this_isKept, .int v_keptAt, .int v_isWriting]))] H := hP
                refine lv_iload hx hb dX9_moths_117 (lv_at hl 7 rfl) ?_
                refine kj0_l (rest := []) (kS ⟨hx, hb, hml, hown, hts⟩ (kX9_lowest _ r_10 r_11 p4 vc.1) (va_cwS 3 hts gX9_moths_X9_lowest rfl rfl rfl (by decide +kernel) ⟨(Nat.le_of_ble_eq_true rfl), (Nat.le_of_ble_eq_true rfl)⟩) hK rfl rfl hl.1 (Nat.le_of_ble_eq_true rfl) dX9_moths_119 ⟨(Nat.le_of_ble_eq_true rfl), (Nat.le_of_ble_eq_true rfl)⟩) hP hS hA (fun r_12 H locs hq_ hP hS => ?_)
                replace vc := vc.2 r_12 hq_
                have hP : va_P D vwCl [(h_this, .inr (9, [.int v_present, .ref h_this_wool, .ref h_this_stitches, .ref h_this_place, .int v_chest, .int v_years, .ref h_this_sightSundays, .ref h_this_sightWool, .int v_sights, .ref h_this_pad, .int v_padMany, .ref h_this_act, .ref h_this_which, .ref h_this_much, .int v_acts, .int v_sweptMany, .ref h_this_had, .int v_badAct, .int v_badWhy, .int v_sweptAct, .int v_sweptWhich, .ref h_this_rows, .ref h_this_groups, .ref h_this_covers, .ref h_this_byWool, .ref h_this_wins, .ref h_this_kept, .ref h_this_isKept, .int v_keptAt, .int v_isWriting]))] H := hP
                refine lv_goto (tgt := 137) hx hb dX9_moths_122 (by decide) ?_
                exact W.lret (v := r_12) hx hb hr (fun t ht hW => ⟨⟨r_12, (), rfl, vc, QB_mk (hP.sub [0] rfl) (hD.sub [0] rfl rfl) ht⟩, hS.F ht⟩) hS.2.2 dX9_moths_137
            · replace vc := vc.2 c_
              refine lv_ldc2 (v := (-1000000000000000002 : Int64)) hx hb hown (hts _ mwX9_moths_3) dX9_moths_72 ?_
              exact W.lret (v := (-1000000000000000002 : Int64)) hx hb hr (fun t ht hW => ⟨⟨(-1000000000000000002 : Int64), (), rfl, vc, QB_mk (hP.sub [0] rfl) (hD.sub [0] rfl rfl) ht⟩, hS.F ht⟩) hS.2.2 dX9_moths_75
