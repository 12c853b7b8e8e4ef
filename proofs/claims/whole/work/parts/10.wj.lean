theorem mwX9_isCover_1 : Cond.fieldLink RX9 13 "HassockSeeModel" "stitches" "[I" ∈ wsX9_isCover := List.mem_of_getElem? (i := 1) rfl
theorem mcX9_isCover_X9 : ∀ w ∈ u_ws RX9 TX9 30, w ∈ wsX9_isCover := fun _ h => (List.mem_cons_of_mem _ (List.mem_append_right _ h))
def KX9_isCover (l : Launch) (D : va_G) (cI cZ : ClassId) (P : Int32 → Int32 → (Nat → Int32) → Prop) (Q : Int32 → Int32 → (Nat → Int32) → Int32 → Prop) : Prop := ∀ (sz : Nat) (h_this h_this_wool h_this_stitches h_this_place h_this_sightSundays h_this_sightWool h_this_pad h_this_act h_this_which h_this_much h_this_had h_this_rows h_this_groups h_this_covers h_this_byWool h_this_wins h_this_kept h_this_isKept : Nat) (p0 : Int32) (p1 : Int32) (v_present : Int32) (v_chest : Int32) (v_years : Int32) (v_sights : Int32) (v_padMany : Int32) (v_acts : Int32) (v_sweptMany : Int32) (v_badAct : Int32) (v_badWhy : Int32) (v_sweptAct : Int32) (v_sweptWhich : Int32) (v_keptAt : Int32) (v_isWriting : Int32) (v_stitches : (Nat → Int32)), P p0 p1 v_stitches → MI l yX9_isCover wsX9_isCover ({ frames := 1, cells := 0, slots := 0, locals := 21 }) [.ref h_this, .int p0, .int p1] D cI cZ sz [(h_this, .inr (9, [.int v_present, .ref h_this_wool, .ref h_this_stitches, .ref h_this_place, .int v_chest, .int v_years, .ref h_this_sightSundays, .ref h_this_sightWool, .int v_sights, .ref h_this_pad, .int v_padMany, .ref h_this_act, .ref h_this_which, .ref h_this_much, .int v_acts, .int v_sweptMany, .ref h_this_had, .int v_badAct, .int v_badWhy, .int v_sweptAct, .int v_sweptWhich, .ref h_this_rows, .ref h_this_groups, .ref h_this_covers, .ref h_this_byWool, .ref h_this_wins, .ref h_this_kept, .ref h_this_isKept, .int v_keptAt, .int v_isWriting])), (h_this_stitches, .inl (cI, 10, .inl v_stitches))] (fun r (u : Unit) => Q p0 p1 v_stitches r ) (fun u => [(h_this, .inr (9, [.int v_present, .ref h_this_wool, .ref h_this_stitches, .ref h_this_place, .int v_chest, .int v_years, .ref h_this_sightSundays, .ref h_this_sightWool, .int v_sights, .ref h_this_pad, .int v_padMany, .ref h_this_act, .ref h_this_which, .ref h_this_much, .int v_acts, .int v_sweptMany, .ref h_this_had, .int v_badAct, .int v_badWhy, .int v_sweptAct, .int v_sweptWhich, .ref h_this_rows, .ref h_this_groups, .ref h_this_covers, .ref h_this_byWool, .ref h_this_wins, .ref h_this_kept, .ref h_this_isKept, .int v_keptAt, .int v_isWriting])), (h_this_stitches, .inl (cI, 10, .inl v_stitches))]) 0 0
set_option maxHeartbeats 4000000 in
set_option maxRecDepth 100000 in
theorem walkX9_isCover {l : Launch} {D : va_G} {cI cZ : ClassId} {PX9_isCover : Int32 → Int32 → (Nat → Int32) → Prop} {QX9_isCover : Int32 → Int32 → (Nat → Int32) → Int32 → Prop} {PX9_has : Int32 → Int32 → Prop} {QX9_has : Int32 → Int32 → Int32 → Prop} (kX9_has : KX9_has l D cI cZ PX9_has QX9_has) (IX9_isCover_5 : Int32 → Int32 → (Nat → Int32) → Nat → Int32 → Int32 → Int32 → Int32 → Prop) (hvc : ∀ (p0 : Int32) (p1 : Int32) (v_stitches : (Nat → Int32)), PX9_isCover p0 p1 v_stitches → ((∃ n0 : Nat, IX9_isCover_5 p0 p1 v_stitches n0 p0 p1 (0 : Int32) (0 : Int32)) ∧ (∀ (n_1 : Nat) (i_2 : Int32) (i_3 : Int32), (IX9_isCover_5 p0 p1 v_stitches n_1 p0 p1 i_2 i_3 → (((10 : Int32) ≤ i_3 → ((¬ (p1 &&& (i_2 ^^^ (-1 : Int32))) = 0 → (QX9_isCover p0 p1 v_stitches (0 : Int32) )) ∧ ((p1 &&& (i_2 ^^^ (-1 : Int32))) = 0 → (QX9_isCover p0 p1 v_stitches (1 : Int32) )))) ∧ (¬ (10 : Int32) ≤ i_3 → (PX9_has p0 i_3 ∧ (∀ r_4 : Int32, QX9_has p0 i_3 r_4 → ((r_4 = 0 → (∀ x_5 : Int32, x_5 = (i_2 ||| (0 : Int32)) → (∀ x_6 : Int32, x_6 = (i_3 + (1 : Int32)) → (∃ n1 : Nat, n1 < n_1 ∧ IX9_isCover_5 p0 p1 v_stitches n1 p0 p1 x_5 x_6)))) ∧ (¬ r_4 = 0 → (vp_in i_3 10 ∧ (∀ x_8 : Int32, x_8 = (i_2 ||| (v_stitches (i_3).toNatClampNeg)) → (∀ x_9 : Int32, x_9 = (i_3 + (1 : Int32)) → (∃ n1 : Nat, n1 < n_1 ∧ IX9_isCover_5 p0 p1 v_stitches n1 p0 p1 x_8 x_9)))))))))))))) : KX9_isCover l D cI cZ PX9_isCover QX9_isCover := by
  intro sz h_this h_this_wool h_this_stitches h_this_place h_this_sightSundays h_this_sightWool h_this_pad h_this_act h_this_which h_this_much h_this_had h_this_rows h_this_groups h_this_covers h_this_byWool h_this_wins h_this_kept h_this_isKept p0 p1 v_present v_chest v_years v_sights v_padMany v_acts v_sweptMany v_badAct v_badWhy v_sweptAct v_sweptWhich v_keptAt v_isWriting v_stitches hpre
  have vc := hvc p0 p1 v_stitches hpre
  clear hvc
  refine Met.ofW (cc := cX9_isCover) (maxL := 5) (ret := (some .boolean)) (by decide) rfl ?_
  intro p e s m args below meth c s₁ B hml hv
  obtain ⟨rfl, hsz, hP, hK, hD0⟩ := hv
  have hx := B.exec
  have hb := B.bytes
  have hr := B.returns
  have hts := atoms_spec (ws := wsX9_isCover) B.pre
  have hown : s.vm.findClass RX9 = some m.cls := findClass_of_methodNamed B.named
  have hlocks := B.notSynchronized
  subst hsz
  have hD := hD0.self (sz := s.heap.size)
  generalize hAe : va_A [(h_this, .inr (9, [.int v_present, .ref h_this_wool, .ref h_this_stitches, .ref h_this_place, .int v_chest, .int v_years, .ref h_this_sightSundays, .ref h_this_sightWool, .int v_sights, .ref h_this_pad, .int v_padMany, .ref h_this_act, .ref h_this_which, .ref h_this_much, .int v_acts, .int v_sweptMany, .ref h_this_had, .int v_badAct, .int v_badWhy, .int v_sweptAct, .int v_sweptWhich, .ref h_this_rows, .ref h_this_groups, .ref h_this_covers, .ref h_this_byWool, .ref h_this_wins, .ref h_this_kept, .ref h_this_isKept, .int v_keptAt, .int v_isWriting])), (h_this_stitches, .inl (cI, 10, .inl v_stitches))] s.heap.size = A at hD ⊢
  have hA : ∀ q : Nat, s.heap.size ≤ q → A q := fun q h => by rw [← hAe]; exact Or.inr h
  have hS : va_S A s.heap s.heap [] := va_S.rf
  have hP : va_P D vwCl [(h_this, .inr (9, [.int v_present, .ref h_this_wool, .ref h_this_stitches, .ref h_this_place, .int v_chest, .int v_years, .ref h_this_sightSundays, .ref h_this_sightWool, .int v_sights, .ref h_this_pad, .int v_padMany, .ref h_this_act, .ref h_this_which, .ref h_this_much, .int v_acts, .int v_sweptMany, .ref h_this_had, .int v_badAct, .int v_badWhy, .int v_sweptAct, .int v_sweptWhich, .ref h_this_rows, .ref h_this_groups, .ref h_this_covers, .ref h_this_byWool, .ref h_this_wins, .ref h_this_kept, .ref h_this_isKept, .int v_keptAt, .int v_isWriting])), (h_this_stitches, .inl (cI, 10, .inl v_stitches))] s.heap := hP
  have hl := lv_entry ([.ref h_this, .int p0, .int p1]) (n := 5) (Nat.le_of_ble_eq_true rfl)
  rw [lg_entry_eq]
  generalize (lg_sl ([.ref h_this, .int p0, .int p1]) ++ List.replicate (5 - (lg_sl ([.ref h_this, .int p0, .int p1])).length) Slot.unset).toArray = ls at hl ⊢
  have hl : lv_has ls 5 [(0, .ref h_this), (1, .int p0), (2, .int p1)] := hl
  refine lv_iconst (v := (0 : Int32)) hx hb dX9_isCover_0 (by decide) ?_
  refine lv_istore_n (lv' := [(3, .int (0 : Int32)), (0, .ref h_this), (1, .int p0), (2, .int p1)]) hx hb dX9_isCover_1 rfl hl (by decide) rfl (fun ls hl => ?_)
  refine lv_iconst (v := (0 : Int32)) hx hb dX9_isCover_2 (by decide) ?_
  refine lv_istore (lv' := [(4, .int (0 : Int32)), (3, .int (0 : Int32)), (0, .ref h_this), (1, .int p0), (2, .int p1)]) hx hb dX9_isCover_3 hl (by decide) rfl (fun ls hl => ?_)
  obtain ⟨⟨n0_1, hi0_1⟩, vc⟩ := vc
  refine kloop (V := Int32 × Int32) (I := fun n v => IX9_isCover_5 p0 p1 v_stitches n p0 p1 (v.1) (v.2)) (wv := fun v => [(h_this, .inr (9, [.int v_present, .ref h_this_wool, .ref h_this_stitches, .ref h_this_place, .int v_chest, .int v_years, .ref h_this_sightSundays, .ref h_this_sightWool, .int v_sights, .ref h_this_pad, .int v_padMany, .ref h_this_act, .ref h_this_which, .ref h_this_much, .int v_acts, .int v_sweptMany, .ref h_this_had, .int v_badAct, .int v_badWhy, .int v_sweptAct, .int v_sweptWhich, .ref h_this_rows, .ref h_this_groups, .ref h_this_covers, .ref h_this_byWool, .ref h_this_wins, .ref h_this_kept, .ref h_this_isKept, .int v_keptAt, .int v_isWriting])), (h_this_stitches, .inl (cI, 10, .inl v_stitches))]) (lv := fun v => [(0, .ref h_this), (1, .int p0), (2, .int p1), (3, .int (v.1)), (4, .int (v.2))]) n0_1 ((0 : Int32), (0 : Int32)) hi0_1 hP hD hS (lv_sub hl [2, 3, 4, 1, 0] rfl) ?_
  intro n_1 v_1 hi_1 ih_1 H locs hP hD hS ls hl
  obtain ⟨i_2, i_3⟩ := v_1
  replace vc := vc n_1 i_2 i_3 hi_1
  have hP : va_P D vwCl [(h_this, .inr (9, [.int v_present, .ref h_this_wool, .ref h_this_stitches, .ref h_this_place, .int v_chest, .int v_years, .ref h_this_sightSundays, .ref h_this_sightWool, .int v_sights, .ref h_this_pad, .int v_padMany, .ref h_this_act, .ref h_this_which, .ref h_this_much, .int v_acts, .int v_sweptMany, .ref h_this_had, .int v_badAct, .int v_badWhy, .int v_sweptAct, .int v_sweptWhich, .ref h_this_rows, .ref h_this_groups, .ref h_this_covers, .ref h_this_byWool, .ref h_this_wins, .ref h_this_kept, .ref h_this_isKept, .int v_keptAt, .int v_isWriting])), (h_this_stitches, .inl (cI, 10, .inl v_stitches))] H := hP
  have hD : va_D A [(h_this, .inr (9, [.int v_present, .ref h_this_wool, .ref h_this_stitches, .ref h_this_place, .int v_chest, .int v_years, .ref h_this_sightSundays, .ref h_this_sightWool, .int v_sights, .ref h_this_pad, .int v_padMany, .ref h_this_act, .ref h_this_which, .ref h_this_much, .int v_acts, .int v_sweptMany, .ref h_this_had, .int v_badAct, .int v_badWhy, .int v_sweptAct, .int v_sweptWhich, .ref h_this_rows, .ref h_this_groups, .ref h_this_covers, .ref h_this_byWool, .ref h_this_wins, .ref h_this_kept, .ref h_this_isKept, .int v_keptAt, .int v_isWriting])), (h_this_stitches, .inl (cI, 10, .inl v_stitches))] := hD
  have hl : lv_has ls 5 [(0, .ref h_this), (1, .int p0), (2, .int p1), (3, .int i_2), (4, .int i_3)] := hl
  refine lv_iload hx hb dX9_isCover_5 (lv_at hl 4 rfl) ?_
  refine lv_bipush (v := (10 : Int32)) hx hb dX9_isCover_7 (by decide) ?_
  refine lv_icmp_ge (tgt := 41) hx hb dX9_isCover_9 (by decide) (fun c_ => ?_) (fun c_ => ?_)
  · replace vc := vc.1 c_
    refine lv_iload_n hx hb dX9_isCover_41 rfl (lv_at hl 2 rfl) ?_
    refine lv_iload_n hx hb dX9_isCover_42 rfl (lv_at hl 3 rfl) ?_
    refine lv_iconst (v := (-1 : Int32)) hx hb dX9_isCover_43 (by decide) ?_
    refine lv_ixor hx hb dX9_isCover_44 ?_
    refine lv_iand hx hb dX9_isCover_45 ?_
    refine lv_if_ne (tgt := 53) hx hb dX9_isCover_46 (by decide) (fun c_ => ?_) (fun c_ => ?_)
    · replace vc := vc.1 c_
      refine lv_iconst (v := (0 : Int32)) hx hb dX9_isCover_53 (by decide) ?_
      exact W.zret (v := (0 : Int32)) hx hb hr rfl (fun t ht hW => ⟨⟨(0 : Int32), (), rfl, vc, QB_mk (hP.sub [0, 1] rfl) (hD.sub [0, 1] rfl rfl) ht⟩, hS.F ht⟩) hS.2.2 dX9_isCover_54
    · replace vc := vc.2 c_
      refine lv_iconst (v := (1 : Int32)) hx hb dX9_isCover_49 (by decide) ?_
      refine lv_goto (tgt := 54) hx hb dX9_isCover_50 (by decide) ?_
      exact W.zret (v := (1 : Int32)) hx hb hr rfl (fun t ht hW => ⟨⟨(1 : Int32), (), rfl, vc, QB_mk (hP.sub [0, 1] rfl) (hD.sub [0, 1] rfl rfl) ht⟩, hS.F ht⟩) hS.2.2 dX9_isCover_54
  · replace vc := vc.2 c_
    refine lv_iload_n hx hb dX9_isCover_12 rfl (lv_at hl 3 rfl) ?_
    refine lv_iload_n hx hb dX9_isCover_13 rfl (lv_at hl 1 rfl) ?_
    refine lv_iload hx hb dX9_isCover_14 (lv_at hl 4 rfl) ?_
    refine kj0_i (rest := [.int i_2]) (kS ⟨hx, hb, hml, hown, hts⟩ (kX9_has _ p0 i_3 vc.1) (va_cwS 2 hts gX9_isCover_X9_has rfl rfl rfl (by decide +kernel) ⟨(Nat.le_of_ble_eq_true rfl), (Nat.le_of_ble_eq_true rfl)⟩) hK rfl rfl hl.1 (Nat.le_of_ble_eq_true rfl) dX9_isCover_16 ⟨(Nat.le_of_ble_eq_true rfl), (Nat.le_of_ble_eq_true rfl)⟩) hP hS hA (fun r_4 H locs hq_ hP hS => ?_)
    replace vc := vc.2 r_4 hq_
    have hP : va_P D vwCl [(h_this, .inr (9, [.int v_present, .ref h_this_wool, .ref h_this_stitches, .ref h_this_place, .int v_chest, .int v_years, .ref h_this_sightSundays, .ref h_this_sightWool, .int v_sights, .ref h_this_pad, .int v_padMany, .ref h_this_act, .ref h_this_which, .ref h_this_much, .int v_acts, .int v_sweptMany, .ref h_this_had, .int v_badAct, .int v_badWhy, .int v_sweptAct, .int v_sweptWhich, .ref h_this_rows, .ref h_this_groups, .ref h_this_covers, .ref h_this_byWool, .ref h_this_wins, .ref h_this_kept, .ref h_this_isKept, .int v_keptAt, .int v_isWriting])), (h_this_stitches, .inl (cI, 10, .inl v_stitches))] H := hP
    refine lv_if_eq (tgt := 32) hx hb dX9_isCover_19 (by decide) (fun c_ => ?_) (fun c_ => ?_)
    · replace vc := vc.1 c_
      refine lv_iconst (v := (0 : Int32)) hx hb dX9_isCover_32 (by decide) ?_
      refine lv_ior hx hb dX9_isCover_33 ?_
      refine lv_topi (fun x_5 ex_5 => ?_)
      replace vc := vc x_5 ex_5
      refine lv_istore_n (lv' := [(3, .int x_5), (0, .ref h_this), (1, .int p0), (2, .int p1), (4, .int i_3)]) hx hb dX9_isCover_34 rfl hl (by decide) rfl (fun ls hl => ?_)
      obtain ⟨x_6, ex_6⟩ : ∃ y_ : Int32, y_ = (i_3 + (1 : Int32)) := ⟨_, rfl⟩
      replace vc := vc x_6 ex_6
      refine lv_iinc (v := x_6) (lv' := [(4, .int x_6), (3, .int x_5), (0, .ref h_this), (1, .int p0), (2, .int p1)]) hx hb dX9_isCover_35 hl (k := 4) rfl (by rw [ex_6]; rfl) (by decide) rfl (fun ls hl => ?_)
      refine lv_goto (tgt := 5) hx hb dX9_isCover_38 (by decide) ?_
      obtain ⟨n1_, hlt_, hi_⟩ := vc
      exact ih_1 n1_ (x_5, x_6) hlt_ hi_ _ _ hP hD hS ls (lv_sub hl [2, 3, 4, 1, 0] rfl)
    · replace vc := vc.2 c_
      refine lv_aload_n hx hb dX9_isCover_22 rfl (lv_at hl 0 rfl) ?_
      refine va_get (D := D) (ci := 9) (v := .ref h_this_stitches) (C := RX9) (T := TX9) (N := 30) hx hb hts mcX9_isCover_X9 hown hK.1 hP 0 rfl rfl 2 (by decide) (hts _ mwX9_isCover_1) (fun _ h9 => h9) rfl dX9_isCover_23 ?_
      refine lv_iload hx hb dX9_isCover_26 (lv_at hl 4 rfl) ?_
      have hi_7 := vc.1
      replace vc := vc.2
      refine va_iald hx hb hK.1 hP 1 0 rfl rfl hi_7 dX9_isCover_28 ?_
      refine lv_goto (tgt := 33) hx hb dX9_isCover_29 (by decide) ?_
      refine lv_ior hx hb dX9_isCover_33 ?_
      refine lv_topi (fun x_8 ex_8 => ?_)
      replace vc := vc x_8 ex_8
      refine lv_istore_n (lv' := [(3, .int x_8), (0, .ref h_this), (1, .int p0), (2, .int p1), (4, .int i_3)]) hx hb dX9_isCover_34 rfl hl (by decide) rfl (fun ls hl => ?_)
      obtain ⟨x_9, ex_9⟩ : ∃ y_ : Int32, y_ = (i_3 + (1 : Int32)) := ⟨_, rfl⟩
      replace vc := vc x_9 ex_9
      refine lv_iinc (v := x_9) (lv' := [(4, .int x_9), (3, .int x_8), (0, .ref h_this), (1, .int p0), (2, .int p1)]) hx hb dX9_isCover_35 hl (k := 4) rfl (by rw [ex_9]; rfl) (by decide) rfl (fun ls hl => ?_)
      refine lv_goto (tgt := 5) hx hb dX9_isCover_38 (by decide) ?_
      obtain ⟨n1_, hlt_, hi_⟩ := vc
      exact ih_1 n1_ (x_8, x_9) hlt_ hi_ _ _ hP hD hS ls (lv_sub hl [2, 3, 4, 1, 0] rfl)

theorem mwX9_groupsOf_1 : Cond.fieldLink RX9 46 "HassockSeeModel" "covers" "[Z" ∈ wsX9_groupsOf := List.mem_of_getElem? (i := 1) rfl
theorem mwX9_groupsOf_2 : Cond.fieldLink RX9 43 "HassockSeeModel" "groups" "[I" ∈ wsX9_groupsOf := List.mem_of_getElem? (i := 2) rfl
theorem mcX9_groupsOf_X9 : ∀ w ∈ u_ws RX9 TX9 30, w ∈ wsX9_groupsOf := fun _ h => (List.mem_cons_of_mem _ (List.mem_append_right _ h))
def KX9_groupsOf (l : Launch) (D : va_G) (cI cZ : ClassId) (P : Int32 → (Nat → Int32) → (Nat → Int32) → Prop) (Q : Int32 → (Nat → Int32) → (Nat → Int32) → Int32 → Prop) : Prop := ∀ (sz : Nat) (h_this h_this_wool h_this_stitches h_this_place h_this_sightSundays h_this_sightWool h_this_pad h_this_act h_this_which h_this_much h_this_had h_this_rows h_this_groups h_this_covers h_this_byWool h_this_wins h_this_kept h_this_isKept : Nat) (p0 : Int32) (v_present : Int32) (v_chest : Int32) (v_years : Int32) (v_sights : Int32) (v_padMany : Int32) (v_acts : Int32) (v_sweptMany : Int32) (v_badAct : Int32) (v_badWhy : Int32) (v_sweptAct : Int32) (v_sweptWhich : Int32) (v_keptAt : Int32) (v_isWriting : Int32) (v_covers : (Nat → Int32)) (v_groups : (Nat → Int32)), P p0 v_covers v_groups → MI l yX9_groupsOf wsX9_groupsOf ({ frames := 0, cells := 0, slots := 0, locals := 0 }) [.ref h_this, .int p0] D cI cZ sz [(h_this, .inr (9, [.int v_present, .ref h_this_wool, .ref h_this_stitches, .ref h_this_place, .int v_chest, .int v_years, .ref h_this_sightSundays, .ref h_this_sightWool, .int v_sights, .ref h_this_pad, .int v_padMany, .ref h_this_act, .ref h_this_which, .ref h_this_much, .int v_acts, .int v_sweptMany, .ref h_this_had, .int v_badAct, .int v_badWhy, .int v_sweptAct, .int v_sweptWhich, .ref h_this_rows, .ref h_this_groups, .ref h_this_covers, .ref h_this_byWool, .ref h_this_wins, .ref h_this_kept, .ref h_this_isKept, .int v_keptAt, .int v_isWriting])), (h_this_covers, .inl (cZ, 1024, .inl v_covers)), (h_this_groups, .inl (cI, 1024, .inl v_groups))] (fun r (u : Unit) => Q p0 v_covers v_groups r ) (fun u => [(h_this, .inr (9, [.int v_present, .ref h_this_wool, .ref h_this_stitches, .ref h_this_place, .int v_chest, .int v_years, .ref h_this_sightSundays, .ref h_this_sightWool, .int v_sights, .ref h_this_pad, .int v_padMany, .ref h_this_act, .ref h_this_which, .ref h_this_much, .int v_acts, .int v_sweptMany, .ref h_this_had, .int v_badAct, .int v_badWhy, .int v_sweptAct, .int v_sweptWhich, .ref h_this_rows, .ref h_this_groups, .ref h_this_covers, .ref h_this_byWool, .ref h_this_wins, .ref h_this_kept, .ref h_this_isKept, .int v_keptAt, .int v_isWriting])), (h_this_covers, .inl (cZ, 1024, .inl v_covers)), (h_this_groups, .inl (cI, 1024, .inl v_groups))]) 0 0
set_option maxHeartbeats 4000000 in
set_option maxRecDepth 100000 in
theorem walkX9_groupsOf {l : Launch} {D : va_G} {cI cZ : ClassId} {PX9_groupsOf : Int32 → (Nat → Int32) → (Nat → Int32) → Prop} {QX9_groupsOf : Int32 → (Nat → Int32) → (Nat → Int32) → Int32 → Prop} (IX9_groupsOf_4 : Int32 → (Nat → Int32) → (Nat → Int32) → Nat → Int32 → Int32 → Int32 → Prop) (hvc : ∀ (p0 : Int32) (v_covers : (Nat → Int32)) (v_groups : (Nat → Int32)), PX9_groupsOf p0 v_covers v_groups → ((∃ n0 : Nat, IX9_groupsOf_4 p0 v_covers v_groups n0 p0 (0 : Int32) p0) ∧ (∀ (n_1 : Nat) (i_2 : Int32) (i_3 : Int32), (IX9_groupsOf_4 p0 v_covers v_groups n_1 p0 i_3 i_2 → ((i_2 ≤ 0 → (QX9_groupsOf p0 v_covers v_groups i_3 )) ∧ (¬ i_2 ≤ 0 → (vp_in i_2 1024 ∧ (((v_covers (i_2).toNatClampNeg) = 0 → (((0 : Int32) ≤ i_3 → (∀ x_5 : Int32, x_5 = ((i_2 - (1 : Int32)) &&& p0) → (∃ n1 : Nat, n1 < n_1 ∧ IX9_groupsOf_4 p0 v_covers v_groups n1 p0 i_3 x_5))) ∧ (¬ (0 : Int32) ≤ i_3 → (∀ x_6 : Int32, x_6 = ((i_2 - (1 : Int32)) &&& p0) → (∃ n1 : Nat, n1 < n_1 ∧ IX9_groupsOf_4 p0 v_covers v_groups n1 p0 (0 : Int32) x_6))))) ∧ (¬ (v_covers (i_2).toNatClampNeg) = 0 → (vp_in (p0 &&& (i_2 ^^^ (-1 : Int32))) 1024 ∧ (∀ x_8 : Int32, x_8 = ((1 : Int32) + (v_groups ((p0 &&& (i_2 ^^^ (-1 : Int32)))).toNatClampNeg)) → ((x_8 ≤ i_3 → (∀ x_9 : Int32, x_9 = ((i_2 - (1 : Int32)) &&& p0) → (∃ n1 : Nat, n1 < n_1 ∧ IX9_groupsOf_4 p0 v_covers v_groups n1 p0 i_3 x_9))) ∧ (¬ x_8 ≤ i_3 → (∀ x_10 : Int32, x_10 = ((i_2 - (1 : Int32)) &&& p0) → (∃ n1 : Nat, n1 < n_1 ∧ IX9_groupsOf_4 p0 v_covers v_groups n1 p0 x_8 x_10))))))))))))))) : KX9_groupsOf l D cI cZ PX9_groupsOf QX9_groupsOf := by
  intro sz h_this h_this_wool h_this_stitches h_this_place h_this_sightSundays h_this_sightWool h_this_pad h_this_act h_this_which h_this_much h_this_had h_this_rows h_this_groups h_this_covers h_this_byWool h_this_wins h_this_kept h_this_isKept p0 v_present v_chest v_years v_sights v_padMany v_acts v_sweptMany v_badAct v_badWhy v_sweptAct v_sweptWhich v_keptAt v_isWriting v_covers v_groups hpre
  have vc := hvc p0 v_covers v_groups hpre
  clear hvc
  refine Met.ofW (cc := cX9_groupsOf) (maxL := 5) (ret := (some .int)) (by decide) rfl ?_
  intro p e s m args below meth c s₁ B hml hv
  obtain ⟨rfl, hsz, hP, hK, hD0⟩ := hv
  have hx := B.exec
  have hb := B.bytes
  have hr := B.returns
  have hts := atoms_spec (ws := wsX9_groupsOf) B.pre
  have hown : s.vm.findClass RX9 = some m.cls := findClass_of_methodNamed B.named
  have hlocks := B.notSynchronized
  subst hsz
  have hD := hD0.self (sz := s.heap.size)
  generalize hAe : va_A [(h_this, .inr (9, [.int v_present, .ref h_this_wool, .ref h_this_stitches, .ref h_this_place, .int v_chest, .int v_years, .ref h_this_sightSundays, .ref h_this_sightWool, .int v_sights, .ref h_this_pad, .int v_padMany, .ref h_this_act, .ref h_this_which, .ref h_this_much, .int v_acts, .int v_sweptMany, .ref h_this_had, .int v_badAct, .int v_badWhy, .int v_sweptAct, .int v_sweptWhich, .ref h_this_rows, .ref h_this_groups, .ref h_this_covers, .ref h_this_byWool, .ref h_this_wins, .ref h_this_kept, .ref h_this_isKept, .int v_keptAt, .int v_isWriting])), (h_this_covers, .inl (cZ, 1024, .inl v_covers)), (h_this_groups, .inl (cI, 1024, .inl v_groups))] s.heap.size = A at hD ⊢
  have hA : ∀ q : Nat, s.heap.size ≤ q → A q := fun q h => by rw [← hAe]; exact Or.inr h
  have hS : va_S A s.heap s.heap [] := va_S.rf
  have hP : va_P D vwCl [(h_this, .inr (9, [.int v_present, .ref h_this_wool, .ref h_this_stitches, .ref h_this_place, .int v_chest, .int v_years, .ref h_this_sightSundays, .ref h_this_sightWool, .int v_sights, .ref h_this_pad, .int v_padMany, .ref h_this_act, .ref h_this_which, .ref h_this_much, .int v_acts, .int v_sweptMany, .ref h_this_had, .int v_badAct, .int v_badWhy, .int v_sweptAct, .int v_sweptWhich, .ref h_this_rows, .ref h_this_groups, .ref h_this_covers, .ref h_this_byWool, .ref h_this_wins, .ref h_this_kept, .ref h_this_isKept, .int v_keptAt, .int v_isWriting])), (h_this_covers, .inl (cZ, 1024, .inl v_covers)), (h_this_groups, .inl (cI, 1024, .inl v_groups))] s.heap := hP
  have hl := lv_entry ([.ref h_this, .int p0]) (n := 5) (Nat.le_of_ble_eq_true rfl)
  rw [lg_entry_eq]
  generalize (lg_sl ([.ref h_this, .int p0]) ++ List.replicate (5 - (lg_sl ([.ref h_this, .int p0])).length) Slot.unset).toArray = ls at hl ⊢
  have hl : lv_has ls 5 [(0, .ref h_this), (1, .int p0)] := hl
  refine lv_iconst (v := (0 : Int32)) hx hb dX9_groupsOf_0 (by decide) ?_
  refine lv_istore_n (lv' := [(2, .int (0 : Int32)), (0, .ref h_this), (1, .int p0)]) hx hb dX9_groupsOf_1 rfl hl (by decide) rfl (fun ls hl => ?_)
  refine lv_iload_n hx hb dX9_groupsOf_2 rfl (lv_at hl 2 rfl) ?_
  refine lv_istore_n (lv' := [(3, .int p0), (2, .int (0 : Int32)), (0, .ref h_this), (1, .int p0)]) hx hb dX9_groupsOf_3 rfl hl (by decide) rfl (fun ls hl => ?_)
  obtain ⟨⟨n0_1, hi0_1⟩, vc⟩ := vc
  refine kloop (V := Int32 × Int32) (I := fun n v => IX9_groupsOf_4 p0 v_covers v_groups n p0 (v.2) (v.1)) (wv := fun v => [(h_this, .inr (9, [.int v_present, .ref h_this_wool, .ref h_this_stitches, .ref h_this_place, .int v_chest, .int v_years, .ref h_this_sightSundays, .ref h_this_sightWool, .int v_sights, .ref h_this_pad, .int v_padMany, .ref h_this_act, .ref h_this_which, .ref h_this_much, .int v_acts, .int v_sweptMany, .ref h_this_had, .int v_badAct, .int v_badWhy, .int v_sweptAct, .int v_sweptWhich, .ref h_this_rows, .ref h_this_groups, .ref h_this_covers, .ref h_this_byWool, .ref h_this_wins, .ref h_this_kept, .ref h_this_isKept, .int v_keptAt, .int v_isWriting])), (h_this_covers, .inl (cZ, 1024, .inl v_covers)), (h_this_groups, .inl (cI, 1024, .inl v_groups))]) (lv := fun v => [(0, .ref h_this), (1, .int p0), (2, .int (v.2)), (3, .int (v.1))]) n0_1 (p0, (0 : Int32)) hi0_1 hP hD hS (lv_sub hl [2, 3, 1, 0] rfl) ?_
  intro n_1 v_1 hi_1 ih_1 H locs hP hD hS ls hl
  obtain ⟨i_2, i_3⟩ := v_1
  replace vc := vc n_1 i_2 i_3 hi_1
  have hP : va_P D vwCl [(h_this, .inr (9, [.int v_present, .ref h_this_wool, .ref h_this_stitches, .ref h_this_place, .int v_chest, .int v_years, .ref h_this_sightSundays, .ref h_this_sightWool, .int v_sights, .ref h_this_pad, .int v_padMany, .ref h_this_act, .ref h_this_which, .ref h_this_much, .int v_acts, .int v_sweptMany, .ref h_this_had, .int v_badAct, .int v_badWhy, .int v_sweptAct, .int v_sweptWhich, .ref h_this_rows, .ref h_this_groups, .ref h_this_covers, .ref h_this_byWool, .ref h_this_wins, .ref h_this_kept, .ref h_this_isKept, .int v_keptAt, .int v_isWriting])), (h_this_covers, .inl (cZ, 1024, .inl v_covers)), (h_this_groups, .inl (cI, 1024, .inl v_groups))] H := hP
  have hD : va_D A [(h_this, .inr (9, [.int v_present, .ref h_this_wool, .ref h_this_stitches, .ref h_this_place, .int v_chest, .int v_years, .ref h_this_sightSundays, .ref h_this_sightWool, .int v_sights, .ref h_this_pad, .int v_padMany, .ref h_this_act, .ref h_this_which, .ref h_this_much, .int v_acts, .int v_sweptMany, .ref h_this_had, .int v_badAct, .int v_badWhy, .int v_sweptAct, .int v_sweptWhich, .ref h_this_rows, .ref h_this_groups, .ref h_this_covers, .ref h_this_byWool, .ref h_this_wins, .ref h_this_kept, .ref h_this_isKept, .int v_keptAt, .int v_isWriting])), (h_this_covers, .inl (cZ, 1024, .inl v_covers)), (h_this_groups, .inl (cI, 1024, .inl v_groups))] := hD
  have hl : lv_has ls 5 [(0, .ref h_this), (1, .int p0), (2, .int i_3), (3, .int i_2)] := hl
  refine lv_iload_n hx hb dX9_groupsOf_4 rfl (lv_at hl 3 rfl) ?_
  refine lv_if_le (tgt := 57) hx hb dX9_groupsOf_5 (by decide) (fun c_ => ?_) (fun c_ => ?_)
  · replace vc := vc.1 c_
    refine lv_iload_n hx hb dX9_groupsOf_57 rfl (lv_at hl 2 rfl) ?_
    exact W.iret (v := i_3) hx hb hr (fun t ht hW => ⟨⟨i_3, (), rfl, vc, QB_mk (hP.sub [0, 1, 2] rfl) (hD.sub [0, 1, 2] rfl rfl) ht⟩, hS.F ht⟩) hS.2.2 dX9_groupsOf_58
  · replace vc := vc.2 c_
    refine lv_aload_n hx hb dX9_groupsOf_8 rfl (lv_at hl 0 rfl) ?_
    refine va_get (D := D) (ci := 9) (v := .ref h_this_covers) (C := RX9) (T := TX9) (N := 30) hx hb hts mcX9_groupsOf_X9 hown hK.1 hP 0 rfl rfl 23 (by decide) (hts _ mwX9_groupsOf_1) (fun _ h9 => h9) rfl dX9_groupsOf_9 ?_
    refine lv_iload_n hx hb dX9_groupsOf_12 rfl (lv_at hl 3 rfl) ?_
    have hi_4 := vc.1
    replace vc := vc.2
    refine va_zald hx hb hK.1 hP 1 1 rfl rfl hi_4 dX9_groupsOf_13 ?_
    refine lv_if_eq (tgt := 32) hx hb dX9_groupsOf_14 (by decide) (fun c_ => ?_) (fun c_ => ?_)
    · replace vc := vc.1 c_
      refine lv_iconst (v := (0 : Int32)) hx hb dX9_groupsOf_32 (by decide) ?_
      refine lv_istore (lv' := [(4, .int (0 : Int32)), (0, .ref h_this), (1, .int p0), (2, .int i_3), (3, .int i_2)]) hx hb dX9_groupsOf_33 hl (by decide) rfl (fun ls hl => ?_)
      refine lv_iload hx hb dX9_groupsOf_35 (lv_at hl 0 rfl) ?_
      refine lv_iload_n hx hb dX9_groupsOf_37 rfl (lv_at hl 3 rfl) ?_
      refine lv_icmp_le (tgt := 46) hx hb dX9_groupsOf_38 (by decide) (fun c_ => ?_) (fun c_ => ?_)
      · replace vc := vc.1 c_
        refine lv_iload_n hx hb dX9_groupsOf_46 rfl (lv_at hl 3 rfl) ?_
        refine lv_istore_n (lv' := [(2, .int i_3), (4, .int (0 : Int32)), (0, .ref h_this), (1, .int p0), (3, .int i_2)]) hx hb dX9_groupsOf_47 rfl hl (by decide) rfl (fun ls hl => ?_)
        refine lv_iload_n hx hb dX9_groupsOf_48 rfl (lv_at hl 4 rfl) ?_
        refine lv_iconst (v := (1 : Int32)) hx hb dX9_groupsOf_49 (by decide) ?_
        refine lv_isub hx hb dX9_groupsOf_50 ?_
        refine lv_iload_n hx hb dX9_groupsOf_51 rfl (lv_at hl 3 rfl) ?_
        refine lv_iand hx hb dX9_groupsOf_52 ?_
        refine lv_topi (fun x_5 ex_5 => ?_)
        replace vc := vc x_5 ex_5
        refine lv_istore_n (lv' := [(3, .int x_5), (2, .int i_3), (4, .int (0 : Int32)), (0, .ref h_this), (1, .int p0)]) hx hb dX9_groupsOf_53 rfl hl (by decide) rfl (fun ls hl => ?_)
        refine lv_goto (tgt := 4) hx hb dX9_groupsOf_54 (by decide) ?_
        obtain ⟨n1_, hlt_, hi_⟩ := vc
        exact ih_1 n1_ (x_5, i_3) hlt_ hi_ _ _ hP hD hS ls (lv_sub hl [3, 4, 1, 0] rfl)
      · replace vc := vc.2 c_
        refine lv_iload hx hb dX9_groupsOf_41 (lv_at hl 0 rfl) ?_
        refine lv_goto (tgt := 47) hx hb dX9_groupsOf_43 (by decide) ?_
        refine lv_istore_n (lv' := [(2, .int (0 : Int32)), (4, .int (0 : Int32)), (0, .ref h_this), (1, .int p0), (3, .int i_2)]) hx hb dX9_groupsOf_47 rfl hl (by decide) rfl (fun ls hl => ?_)
        refine lv_iload_n hx hb dX9_groupsOf_48 rfl (lv_at hl 4 rfl) ?_
        refine lv_iconst (v := (1 : Int32)) hx hb dX9_groupsOf_49 (by decide) ?_
        refine lv_isub hx hb dX9_groupsOf_50 ?_
        refine lv_iload_n hx hb dX9_groupsOf_51 rfl (lv_at hl 3 rfl) ?_
        refine lv_iand hx hb dX9_groupsOf_52 ?_
        refine lv_topi (fun x_6 ex_6 => ?_)
        replace vc := vc x_6 ex_6
        refine lv_istore_n (lv' := [(3, .int x_6), (2, .int (0 : Int32)), (4, .int (0 : Int32)), (0, .ref h_this), (1, .int p0)]) hx hb dX9_groupsOf_53 rfl hl (by decide) rfl (fun ls hl => ?_)
        refine lv_goto (tgt := 4) hx hb dX9_groupsOf_54 (by decide) ?_
        obtain ⟨n1_, hlt_, hi_⟩ := vc
        exact ih_1 n1_ (x_6, (0 : Int32)) hlt_ hi_ _ _ hP hD hS ls (lv_sub hl [3, 4, 1, 0] rfl)
    · replace vc := vc.2 c_
      refine lv_iconst (v := (1 : Int32)) hx hb dX9_groupsOf_17 (by decide) ?_
      refine lv_aload_n hx hb dX9_groupsOf_18 rfl (lv_at hl 0 rfl) ?_
      refine va_get (D := D) (ci := 9) (v := .ref h_this_groups) (C := RX9) (T := TX9) (N := 30) hx hb hts mcX9_groupsOf_X9 hown hK.1 hP 0 rfl rfl 22 (by decide) (hts _ mwX9_groupsOf_2) (fun _ h9 => h9) rfl dX9_groupsOf_19 ?_
      refine lv_iload_n hx hb dX9_groupsOf_22 rfl (lv_at hl 1 rfl) ?_
      refine lv_iload_n hx hb dX9_groupsOf_23 rfl (lv_at hl 3 rfl) ?_
      refine lv_iconst (v := (-1 : Int32)) hx hb dX9_groupsOf_24 (by decide) ?_
      refine lv_ixor hx hb dX9_groupsOf_25 ?_
      refine lv_iand hx hb dX9_groupsOf_26 ?_
      have hi_7 := vc.1
      replace vc := vc.2
      refine va_iald hx hb hK.1 hP 2 0 rfl rfl hi_7 dX9_groupsOf_27 ?_
      refine lv_iadd hx hb dX9_groupsOf_28 ?_
      refine lv_goto (tgt := 33) hx hb dX9_groupsOf_29 (by decide) ?_
      refine lv_topi (fun x_8 ex_8 => ?_)
      replace vc := vc x_8 ex_8
      refine lv_istore (lv' := [(4, .int x_8), (0, .ref h_this), (1, .int p0), (2, .int i_3), (3, .int i_2)]) hx hb dX9_groupsOf_33 hl (by decide) rfl (fun ls hl => ?_)
      refine lv_iload hx hb dX9_groupsOf_35 (lv_at hl 0 rfl) ?_
      refine lv_iload_n hx hb dX9_groupsOf_37 rfl (lv_at hl 3 rfl) ?_
      refine lv_icmp_le (tgt := 46) hx hb dX9_groupsOf_38 (by decide) (fun c_ => ?_) (fun c_ => ?_)
      · replace vc := vc.1 c_
        refine lv_iload_n hx hb dX9_groupsOf_46 rfl (lv_at hl 3 rfl) ?_
        refine lv_istore_n (lv' := [(2, .int i_3), (4, .int x_8), (0, .ref h_this), (1, .int p0), (3, .int i_2)]) hx hb dX9_groupsOf_47 rfl hl (by decide) rfl (fun ls hl => ?_)
        refine lv_iload_n hx hb dX9_groupsOf_48 rfl (lv_at hl 4 rfl) ?_
        refine lv_iconst (v := (1 : Int32)) hx hb dX9_groupsOf_49 (by decide) ?_
        refine lv_isub hx hb dX9_groupsOf_50 ?_
        refine lv_iload_n hx hb dX9_groupsOf_51 rfl (lv_at hl 3 rfl) ?_
        refine lv_iand hx hb dX9_groupsOf_52 ?_
        refine lv_topi (fun x_9 ex_9 => ?_)
        replace vc := vc x_9 ex_9
        refine lv_istore_n (lv' := [(3, .int x_9), (2, .int i_3), (4, .int x_8), (0, .ref h_this), (1, .int p0)]) hx hb dX9_groupsOf_53 rfl hl (by decide) rfl (fun ls hl => ?_)
        refine lv_goto (tgt := 4) hx hb dX9_groupsOf_54 (by decide) ?_
        obtain ⟨n1_, hlt_, hi_⟩ := vc
        exact ih_1 n1_ (x_9, i_3) hlt_ hi_ _ _ hP hD hS ls (lv_sub hl [3, 4, 1, 0] rfl)
      · replace vc := vc.2 c_
        refine lv_iload hx hb dX9_groupsOf_41 (lv_at hl 0 rfl) ?_
        refine lv_goto (tgt := 47) hx hb dX9_groupsOf_43 (by decide) ?_
        refine lv_istore_n (lv' := [(2, .int x_8), (4, .int x_8), (0, .ref h_this), (1, .int p0), (3, .int i_2)]) hx hb dX9_groupsOf_47 rfl hl (by decide) rfl (fun ls hl => ?_)
        refine lv_iload_n hx hb dX9_groupsOf_48 rfl (lv_at hl 4 rfl) ?_
        refine lv_iconst (v := (1 : Int32)) hx hb dX9_groupsOf_49 (by decide) ?_
        refine lv_isub hx hb dX9_groupsOf_50 ?_
        refine lv_iload_n hx hb dX9_groupsOf_51 rfl (lv_at hl 3 rfl) ?_
        refine lv_iand hx hb dX9_groupsOf_52 ?_
        refine lv_topi (fun x_10 ex_10 => ?_)
        replace vc := vc x_10 ex_10
        refine lv_istore_n (lv' := [(3, .int x_10), (2, .int x_8), (4, .int x_8), (0, .ref h_this), (1, .int p0)]) hx hb dX9_groupsOf_53 rfl hl (by decide) rfl (fun ls hl => ?_)
        refine lv_goto (tgt := 4) hx hb dX9_groupsOf_54 (by decide) ?_
        obtain ⟨n1_, hlt_, hi_⟩ := vc
        exact ih_1 n1_ (x_10, x_8) hlt_ hi_ _ _ hP hD hS ls (lv_sub hl [3, 4, 1, 0] rfl)

theorem mwX9_most_1 : Cond.constantLong RX9 81 (255) ∈ wsX9_most := List.mem_of_getElem? (i := 1) rfl
theorem mwX9_most_2 : Cond.fieldLink RX9 62 "HassockSeeModel" "present" "I" ∈ wsX9_most := List.mem_of_getElem? (i := 2) rfl
theorem mwX9_most_3 : Cond.fieldLink RX9 13 "HassockSeeModel" "stitches" "[I" ∈ wsX9_most := List.mem_of_getElem? (i := 3) rfl
theorem mwX9_most_4 : Cond.fieldLink RX9 46 "HassockSeeModel" "covers" "[Z" ∈ wsX9_most := List.mem_of_getElem? (i := 4) rfl
theorem mwX9_most_5 : Cond.fieldLink RX9 43 "HassockSeeModel" "groups" "[I" ∈ wsX9_most := List.mem_of_getElem? (i := 5) rfl
theorem mcX9_most_X9 : ∀ w ∈ u_ws RX9 TX9 30, w ∈ wsX9_most := fun _ h => (List.mem_cons_of_mem _ (List.mem_append_right _ h))
def KX9_most (l : Launch) (D : va_G) (cI cZ : ClassId) (P : Int32 → Int32 → Int32 → (Nat → Int32) → (Nat → Int32) → (Nat → Int32) → Prop) (Q : Int32 → Int32 → Int32 → (Nat → Int32) → (Nat → Int32) → (Nat → Int32) → Int32 → (Nat → Int32) → (Nat → Int32) → Prop) : Prop := ∀ (sz : Nat) (h_this h_this_wool h_this_stitches h_this_place h_this_sightSundays h_this_sightWool h_this_pad h_this_act h_this_which h_this_much h_this_had h_this_rows h_this_groups h_this_covers h_this_byWool h_this_wins h_this_kept h_this_isKept : Nat) (p0 : Int32) (p1 : Int32) (v_present : Int32) (v_chest : Int32) (v_years : Int32) (v_sights : Int32) (v_padMany : Int32) (v_acts : Int32) (v_sweptMany : Int32) (v_badAct : Int32) (v_badWhy : Int32) (v_sweptAct : Int32) (v_sweptWhich : Int32) (v_keptAt : Int32) (v_isWriting : Int32) (v_covers : (Nat → Int32)) (v_groups : (Nat → Int32)) (v_stitches : (Nat → Int32)), P p0 p1 v_present v_covers v_groups v_stitches → MI l yX9_most wsX9_most ({ frames := 2, cells := 0, slots := 0, locals := 45 }) [.ref h_this, .int p0, .int p1] D cI cZ sz [(h_this, .inr (9, [.int v_present, .ref h_this_wool, .ref h_this_stitches, .ref h_this_place, .int v_chest, .int v_years, .ref h_this_sightSundays, .ref h_this_sightWool, .int v_sights, .ref h_this_pad, .int v_padMany, .ref h_this_act, .ref h_this_which, .ref h_this_much, .int v_acts, .int v_sweptMany, .ref h_this_had, .int v_badAct, .int v_badWhy, .int v_sweptAct, .int v_sweptWhich, .ref h_this_rows, .ref h_this_groups, .ref h_this_covers, .ref h_this_byWool, .ref h_this_wins, .ref h_this_kept, .ref h_this_isKept, .int v_keptAt, .int v_isWriting])), (h_this_covers, .inl (cZ, 1024, .inl v_covers)), (h_this_groups, .inl (cI, 1024, .inl v_groups)), (h_this_stitches, .inl (cI, 10, .inl v_stitches))] (fun r (u : (Nat → Int32) × (Nat → Int32)) => Q p0 p1 v_present v_covers v_groups v_stitches r (u.1) (u.2)) (fun u => [(h_this, .inr (9, [.int v_present, .ref h_this_wool, .ref h_this_stitches, .ref h_this_place, .int v_chest, .int v_years, .ref h_this_sightSundays, .ref h_this_sightWool, .int v_sights, .ref h_this_pad, .int v_padMany, .ref h_this_act, .ref h_this_which, .ref h_this_much, .int v_acts, .int v_sweptMany, .ref h_this_had, .int v_badAct, .int v_badWhy, .int v_sweptAct, .int v_sweptWhich, .ref h_this_rows, .ref h_this_groups, .ref h_this_covers, .ref h_this_byWool, .ref h_this_wins, .ref h_this_kept, .ref h_this_isKept, .int v_keptAt, .int v_isWriting])), (h_this_covers, .inl (cZ, 1024, .inl (u.1))), (h_this_groups, .inl (cI, 1024, .inl (u.2))), (h_this_stitches, .inl (cI, 10, .inl v_stitches))]) 0 0
set_option maxHeartbeats 4000000 in
set_option maxRecDepth 100000 in
theorem walkX9_most {l : Launch} {D : va_G} {cI cZ : ClassId} {PX9_most : Int32 → Int32 → Int32 → (Nat → Int32) → (Nat → Int32) → (Nat → Int32) → Prop} {QX9_most : Int32 → Int32 → Int32 → (Nat → Int32) → (Nat → Int32) → (Nat → Int32) → Int32 → (Nat → Int32) → (Nat → Int32) → Prop} {PX9_in : Int64 → Int64 → Int64 → Prop} {QX9_in : Int64 → Int64 → Int64 → Int32 → Prop} {PX9_groupsOf : Int32 → (Nat → Int32) → (Nat → Int32) → Prop} {QX9_groupsOf : Int32 → (Nat → Int32) → (Nat → Int32) → Int32 → Prop} {PX9_isCover : Int32 → Int32 → (Nat → Int32) → Prop} {QX9_isCover : Int32 → Int32 → (Nat → Int32) → Int32 → Prop} {PX9_ones : Int32 → Prop} {QX9_ones : Int32 → Int32 → Prop} {PX9_has : Int32 → Int32 → Prop} {QX9_has : Int32 → Int32 → Int32 → Prop} (kX9_in : KX9_in l D cI cZ PX9_in QX9_in) (kX9_groupsOf : KX9_groupsOf l D cI cZ PX9_groupsOf QX9_groupsOf) (kX9_isCover : KX9_isCover l D cI cZ PX9_isCover QX9_isCover) (kX9_ones : KX9_ones l D cI cZ PX9_ones QX9_ones) (kX9_has : KX9_has l D cI cZ PX9_has QX9_has) (IX9_most_30 : Int32 → Int32 → Int32 → (Nat → Int32) → (Nat → Int32) → (Nat → Int32) → Nat → Int32 → Int32 → Int32 → Int32 → (Nat → Int32) → (Nat → Int32) → Prop) (IX9_most_91 : Int32 → Int32 → Int32 → (Nat → Int32) → (Nat → Int32) → (Nat → Int32) → Nat → Int32 → Int32 → Int32 → (Nat → Int32) → (Nat → Int32) → Prop) (hvc : ∀ (p0 : Int32) (p1 : Int32) (v_present : Int32) (v_covers : (Nat → Int32)) (v_groups : (Nat → Int32)) (v_stitches : (Nat → Int32)), PX9_most p0 p1 v_present v_covers v_groups v_stitches → (PX9_in (p0.toInt64) (1 : Int64) (255 : Int64) ∧ (∀ r_1 : Int32, QX9_in (p0.toInt64) (1 : Int64) (255 : Int64) r_1 → ((r_1 = 0 → (QX9_most p0 p1 v_present v_covers v_groups v_stitches (-2 : Int32) v_covers v_groups)) ∧ (¬ r_1 = 0 → (PX9_in (p1.toInt64) (0 : Int64) (1 : Int64) ∧ (∀ r_2 : Int32, QX9_in (p1.toInt64) (0 : Int64) (1 : Int64) r_2 → ((¬ r_2 = 0 → ((∃ n0 : Nat, IX9_most_30 p0 p1 v_present v_covers v_groups v_stitches n0 p0 p1 (0 : Int32) (0 : Int32) v_covers v_groups) ∧ (∀ (n_3 : Nat) (i_4 : Int32) (i_5 : Int32), (IX9_most_30 p0 p1 v_present v_covers v_groups v_stitches n_3 p0 p1 i_4 i_5 v_covers v_groups → (((10 : Int32) ≤ i_5 → ((¬ p1 = (1 : Int32) → ((∃ n0 : Nat, IX9_most_91 p0 p1 v_present v_covers v_groups v_stitches n0 p0 i_4 (0 : Int32) v_covers v_groups) ∧ (∀ (n_6 : Nat) (i_7 : Int32) (f_8 : (Nat → Int32)) (f_9 : (Nat → Int32)), (IX9_most_91 p0 p1 v_present v_covers v_groups v_stitches n_6 p0 i_4 i_7 f_8 f_9 → (((1024 : Int32) ≤ i_7 → (vp_in i_4 1024 ∧ (QX9_most p0 p1 v_present v_covers v_groups v_stitches (f_9 (i_4).toNatClampNeg) f_8 f_9))) ∧ (¬ (1024 : Int32) ≤ i_7 → ((¬ (i_7 &&& (i_4 ^^^ (-1 : Int32))) = 0 → (vp_in i_7 1024 ∧ (vp_in i_7 1024 ∧ (∀ x_13 : Int32, x_13 = (i_7 + (1 : Int32)) → (∃ n1 : Nat, n1 < n_6 ∧ IX9_most_91 p0 p1 v_present v_covers v_groups v_stitches n1 p0 i_4 x_13 (upd f_8 (i_7).toNatClampNeg (vp_nar .boolean (0 : Int32))) (upd f_9 (i_7).toNatClampNeg (0 : Int32))))))) ∧ ((i_7 &&& (i_4 ^^^ (-1 : Int32))) = 0 → ((i_7 ≤ 0 → (vp_in i_7 1024 ∧ (PX9_groupsOf i_7 (upd f_8 (i_7).toNatClampNeg (vp_nar .boolean (0 : Int32))) f_9 ∧ (∀ (r_15 : Int32), QX9_groupsOf i_7 (upd f_8 (i_7).toNatClampNeg (vp_nar .boolean (0 : Int32))) f_9 r_15  → (vp_in i_7 1024 ∧ (∀ x_17 : Int32, x_17 = (i_7 + (1 : Int32)) → (∃ n1 : Nat, n1 < n_6 ∧ IX9_most_91 p0 p1 v_present v_covers v_groups v_stitches n1 p0 i_4 x_17 (upd f_8 (i_7).toNatClampNeg (vp_nar .boolean (0 : Int32))) (upd f_9 (i_7).toNatClampNeg r_15)))))))) ∧ (¬ i_7 ≤ 0 → (PX9_isCover i_7 p0 v_stitches ∧ (∀ (r_18 : Int32), QX9_isCover i_7 p0 v_stitches r_18  → ((r_18 = 0 → (vp_in i_7 1024 ∧ (PX9_groupsOf i_7 (upd f_8 (i_7).toNatClampNeg (vp_nar .boolean (0 : Int32))) f_9 ∧ (∀ (r_20 : Int32), QX9_groupsOf i_7 (upd f_8 (i_7).toNatClampNeg (vp_nar .boolean (0 : Int32))) f_9 r_20  → (vp_in i_7 1024 ∧ (∀ x_22 : Int32, x_22 = (i_7 + (1 : Int32)) → (∃ n1 : Nat, n1 < n_6 ∧ IX9_most_91 p0 p1 v_present v_covers v_groups v_stitches n1 p0 i_4 x_22 (upd f_8 (i_7).toNatClampNeg (vp_nar .boolean (0 : Int32))) (upd f_9 (i_7).toNatClampNeg r_20)))))))) ∧ (¬ r_18 = 0 → (vp_in i_7 1024 ∧ (PX9_groupsOf i_7 (upd f_8 (i_7).toNatClampNeg (vp_nar .boolean (1 : Int32))) f_9 ∧ (∀ (r_24 : Int32), QX9_groupsOf i_7 (upd f_8 (i_7).toNatClampNeg (vp_nar .boolean (1 : Int32))) f_9 r_24  → (vp_in i_7 1024 ∧ (∀ x_26 : Int32, x_26 = (i_7 + (1 : Int32)) → (∃ n1 : Nat, n1 < n_6 ∧ IX9_most_91 p0 p1 v_present v_covers v_groups v_stitches n1 p0 i_4 x_26 (upd f_8 (i_7).toNatClampNeg (vp_nar .boolean (1 : Int32))) (upd f_9 (i_7).toNatClampNeg r_24))))))))))))))))))))) ∧ (p1 = (1 : Int32) → (PX9_ones i_4 ∧ (∀ r_27 : Int32, QX9_ones i_4 r_27 → (QX9_most p0 p1 v_present v_covers v_groups v_stitches r_27 v_covers v_groups)))))) ∧ (¬ (10 : Int32) ≤ i_5 → (PX9_has v_present i_5 ∧ (∀ r_28 : Int32, QX9_has v_present i_5 r_28 → ((r_28 = 0 → (∀ x_29 : Int32, x_29 = (i_4 ||| (0 : Int32)) → (∀ x_30 : Int32, x_30 = (i_5 + (1 : Int32)) → (∃ n1 : Nat, n1 < n_3 ∧ IX9_most_30 p0 p1 v_present v_covers v_groups v_stitches n1 p0 p1 x_29 x_30 v_covers v_groups)))) ∧ (¬ r_28 = 0 → (vp_in i_5 10 ∧ ((((v_stitches (i_5).toNatClampNeg) &&& p0) = 0 → (∀ x_32 : Int32, x_32 = (i_4 ||| (0 : Int32)) → (∀ x_33 : Int32, x_33 = (i_5 + (1 : Int32)) → (∃ n1 : Nat, n1 < n_3 ∧ IX9_most_30 p0 p1 v_present v_covers v_groups v_stitches n1 p0 p1 x_32 x_33 v_covers v_groups)))) ∧ (¬ ((v_stitches (i_5).toNatClampNeg) &&& p0) = 0 → (∀ x_34 : Int32, x_34 = (i_4 ||| ((1 : Int32) <<< (i_5 &&& 31))) → (∀ x_35 : Int32, x_35 = (i_5 + (1 : Int32)) → (∃ n1 : Nat, n1 < n_3 ∧ IX9_most_30 p0 p1 v_present v_covers v_groups v_stitches n1 p0 p1 x_34 x_35 v_covers v_groups)))))))))))))))) ∧ (r_2 = 0 → (QX9_most p0 p1 v_present v_covers v_groups v_stitches (-2 : Int32) v_covers v_groups)))))))))) : KX9_most l D cI cZ PX9_most QX9_most := by
  intro sz h_this h_this_wool h_this_stitches h_this_place h_this_sightSundays h_this_sightWool h_this_pad h_this_act h_this_which h_this_much h_this_had h_this_rows h_this_groups h_this_covers h_this_byWool h_this_wins h_this_kept h_this_isKept p0 p1 v_present v_chest v_years v_sights v_padMany v_acts v_sweptMany v_badAct v_badWhy v_sweptAct v_sweptWhich v_keptAt v_isWriting v_covers v_groups v_stitches hpre
  have vc := hvc p0 p1 v_present v_covers v_groups v_stitches hpre
  clear hvc
  refine Met.ofW (cc := cX9_most) (maxL := 6) (ret := (some .int)) (by decide) rfl ?_
  intro p e s m args below meth c s₁ B hml hv
  obtain ⟨rfl, hsz, hP, hK, hD0⟩ := hv
  have hx := B.exec
  have hb := B.bytes
  have hr := B.returns
  have hts := atoms_spec (ws := wsX9_most) B.pre
  have hown : s.vm.findClass RX9 = some m.cls := findClass_of_methodNamed B.named
  have hlocks := B.notSynchronized
  subst hsz
  have hD := hD0.self (sz := s.heap.size)
  generalize hAe : va_A [(h_this, .inr (9, [.int v_present, .ref h_this_wool, .ref h_this_stitches, .ref h_this_place, .int v_chest, .int v_years, .ref h_this_sightSundays, .ref h_this_sightWool, .int v_sights, .ref h_this_pad, .int v_padMany, .ref h_this_act, .ref h_this_which, .ref h_this_much, .int v_acts, .int v_sweptMany, .ref h_this_had, .int v_badAct, .int v_badWhy, .int v_sweptAct, .int v_sweptWhich, .ref h_this_rows, .ref h_this_groups, .ref h_this_covers, .ref h_this_byWool, .ref h_this_wins, .ref h_this_kept, .ref h_this_isKept, .int v_keptAt, .int v_isWriting])), (h_this_covers, .inl (cZ, 1024, .inl v_covers)), (h_this_groups, .inl (cI, 1024, .inl v_groups)), (h_this_stitches, .inl (cI, 10, .inl v_stitches))] s.heap.size = A at hD ⊢
  have hA : ∀ q : Nat, s.heap.size ≤ q → A q := fun q h => by rw [← hAe]; exact Or.inr h
  have hS : va_S A s.heap s.heap [] := va_S.rf
  have hP : va_P D vwCl [(h_this, .inr (9, [.int v_present, .ref h_this_wool, .ref h_this_stitches, .ref h_this_place, .int v_chest, .int v_years, .ref h_this_sightSundays, .ref h_this_sightWool, .int v_sights, .ref h_this_pad, .int v_padMany, .ref h_this_act, .ref h_this_which, .ref h_this_much, .int v_acts, .int v_sweptMany, .ref h_this_had, .int v_badAct, .int v_badWhy, .int v_sweptAct, .int v_sweptWhich, .ref h_this_rows, .ref h_this_groups, .ref h_this_covers, .ref h_this_byWool, .ref h_this_wins, .ref h_this_kept, .ref h_this_isKept, .int v_keptAt, .int v_isWriting])), (h_this_covers, .inl (cZ, 1024, .inl v_covers)), (h_this_groups, .inl (cI, 1024, .inl v_groups)), (h_this_stitches, .inl (cI, 10, .inl v_stitches))] s.heap := hP
  have hl := lv_entry ([.ref h_this, .int p0, .int p1]) (n := 6) (Nat.le_of_ble_eq_true rfl)
  rw [lg_entry_eq]
  generalize (lg_sl ([.ref h_this, .int p0, .int p1]) ++ List.replicate (6 - (lg_sl ([.ref h_this, .int p0, .int p1])).length) Slot.unset).toArray = ls at hl ⊢
  have hl : lv_has ls 6 [(0, .ref h_this), (1, .int p0), (2, .int p1)] := hl
  refine lv_iload_n hx hb dX9_most_0 rfl (lv_at hl 1 rfl) ?_
  refine lv_i2l hx hb dX9_most_1 rfl ?_
  refine lv_lconst (v := (1 : Int64)) hx hb dX9_most_2 (by decide) ?_
  refine lv_ldc2 (v := (255 : Int64)) hx hb hown (hts _ mwX9_most_1) dX9_most_3 ?_
  refine kj0_i (rest := []) (kS ⟨hx, hb, hml, hown, hts⟩ (kX9_in _ (p0.toInt64) (1 : Int64) (255 : Int64) vc.1) (va_cwS 3 hts gX9_most_X9_in rfl rfl rfl (by decide +kernel) ⟨(Nat.le_of_ble_eq_true rfl), (Nat.le_of_ble_eq_true rfl)⟩) hK rfl rfl hl.1 (Nat.le_of_ble_eq_true rfl) dX9_most_6 ⟨(Nat.le_of_ble_eq_true rfl), (Nat.le_of_ble_eq_true rfl)⟩) hP hS hA (fun r_1 H locs hq_ hP hS => ?_)
  replace vc := vc.2 r_1 hq_
  have hP : va_P D vwCl [(h_this, .inr (9, [.int v_present, .ref h_this_wool, .ref h_this_stitches, .ref h_this_place, .int v_chest, .int v_years, .ref h_this_sightSundays, .ref h_this_sightWool, .int v_sights, .ref h_this_pad, .int v_padMany, .ref h_this_act, .ref h_this_which, .ref h_this_much, .int v_acts, .int v_sweptMany, .ref h_this_had, .int v_badAct, .int v_badWhy, .int v_sweptAct, .int v_sweptWhich, .ref h_this_rows, .ref h_this_groups, .ref h_this_covers, .ref h_this_byWool, .ref h_this_wins, .ref h_this_kept, .ref h_this_isKept, .int v_keptAt, .int v_isWriting])), (h_this_covers, .inl (cZ, 1024, .inl v_covers)), (h_this_groups, .inl (cI, 1024, .inl v_groups)), (h_this_stitches, .inl (cI, 10, .inl v_stitches))] H := hP
  refine lv_if_eq (tgt := 22) hx hb dX9_most_9 (by decide) (fun c_ => ?_) (fun c_ => ?_)
  · replace vc := vc.1 c_
    refine lv_bipush (v := (-2 : Int32)) hx hb dX9_most_22 (by decide) ?_
    exact W.iret (v := (-2 : Int32)) hx hb hr (fun t ht hW => ⟨⟨(-2 : Int32), (v_covers, v_groups), rfl, vc, QB_mk (hP.sub [0, 1, 2, 3] rfl) (hD.sub [0, 1, 2, 3] rfl rfl) ht⟩, hS.F ht⟩) hS.2.2 dX9_most_24
  · replace vc := vc.2 c_
    refine lv_iload_n hx hb dX9_most_12 rfl (lv_at hl 2 rfl) ?_
    refine lv_i2l hx hb dX9_most_13 rfl ?_
    refine lv_lconst (v := (0 : Int64)) hx hb dX9_most_14 (by decide) ?_
    refine lv_lconst (v := (1 : Int64)) hx hb dX9_most_15 (by decide) ?_
    refine kj0_i (rest := []) (kS ⟨hx, hb, hml, hown, hts⟩ (kX9_in _ (p1.toInt64) (0 : Int64) (1 : Int64) vc.1) (va_cwS 3 hts gX9_most_X9_in rfl rfl rfl (by decide +kernel) ⟨(Nat.le_of_ble_eq_true rfl), (Nat.le_of_ble_eq_true rfl)⟩) hK rfl rfl hl.1 (Nat.le_of_ble_eq_true rfl) dX9_most_16 ⟨(Nat.le_of_ble_eq_true rfl), (Nat.le_of_ble_eq_true rfl)⟩) hP hS hA (fun r_2 H locs hq_ hP hS => ?_)
    replace vc := vc.2 r_2 hq_
    have hP : va_P D vwCl [(h_this, .inr (9, [.int v_present, .ref h_this_wool, .ref h_this_stitches, .ref h_this_place, .int v_chest, .int v_years, .ref h_this_sightSundays, .ref h_this_sightWool, .int v_sights, .ref h_this_pad, .int v_padMany, .ref h_this_act, .ref h_this_which, .ref h_this_much, .int v_acts, .int v_sweptMany, .ref h_this_had, .int v_badAct, .int v_badWhy, .int v_sweptAct, .int v_sweptWhich, .ref h_this_rows, .ref h_this_groups, .ref h_this_covers, .ref h_this_byWool, .ref h_this_wins, .ref h_this_kept, .ref h_this_isKept, .int v_keptAt, .int v_isWriting])), (h_this_covers, .inl (cZ, 1024, .inl v_covers)), (h_this_groups, .inl (cI, 1024, .inl v_groups)), (h_this_stitches, .inl (cI, 10, .inl v_stitches))] H := hP
    refine lv_if_ne (tgt := 25) hx hb dX9_most_19 (by decide) (fun c_ => ?_) (fun c_ => ?_)
    · replace vc := vc.1 c_
      refine lv_iconst (v := (0 : Int32)) hx hb dX9_most_25 (by decide) ?_
      refine lv_istore_n (lv' := [(3, .int (0 : Int32)), (0, .ref h_this), (1, .int p0), (2, .int p1)]) hx hb dX9_most_26 rfl hl (by decide) rfl (fun ls hl => ?_)
      refine lv_iconst (v := (0 : Int32)) hx hb dX9_most_27 (by decide) ?_
      refine lv_istore (lv' := [(4, .int (0 : Int32)), (3, .int (0 : Int32)), (0, .ref h_this), (1, .int p0), (2, .int p1)]) hx hb dX9_most_28 hl (by decide) rfl (fun ls hl => ?_)
      obtain ⟨⟨n0_3, hi0_3⟩, vc⟩ := vc
      refine kloop (V := Int32 × Int32) (I := fun n v => IX9_most_30 p0 p1 v_present v_covers v_groups v_stitches n p0 p1 (v.1) (v.2) v_covers v_groups) (wv := fun v => [(h_this, .inr (9, [.int v_present, .ref h_this_wool, .ref h_this_stitches, .ref h_this_place, .int v_chest, .int v_years, .ref h_this_sightSundays, .ref h_this_sightWool, .int v_sights, .ref h_this_pad, .int v_padMany, .ref h_this_act, .ref h_this_which, .ref h_this_much, .int v_acts, .int v_sweptMany, .ref h_this_had, .int v_badAct, .int v_badWhy, .int v_sweptAct, .int v_sweptWhich, .ref h_this_rows, .ref h_this_groups, .ref h_this_covers, .ref h_this_byWool, .ref h_this_wins, .ref h_this_kept, .ref h_this_isKept, .int v_keptAt, .int v_isWriting])), (h_this_covers, .inl (cZ, 1024, .inl v_covers)), (h_this_groups, .inl (cI, 1024, .inl v_groups)), (h_this_stitches, .inl (cI, 10, .inl v_stitches))]) (lv := fun v => [(0, .ref h_this), (1, .int p0), (2, .int p1), (3, .int (v.1)), (4, .int (v.2))]) n0_3 ((0 : Int32), (0 : Int32)) hi0_3 hP hD hS (lv_sub hl [2, 3, 4, 1, 0] rfl) ?_
      intro n_3 v_3 hi_3 ih_3 H locs hP hD hS ls hl
      obtain ⟨i_4, i_5⟩ := v_3
      replace vc := vc n_3 i_4 i_5 hi_3
      have hP : va_P D vwCl [(h_this, .inr (9, [.int v_present, .ref h_this_wool, .ref h_this_stitches, .ref h_this_place, .int v_chest, .int v_years, .ref h_this_sightSundays, .ref h_this_sightWool, .int v_sights, .ref h_this_pad, .int v_padMany, .ref h_this_act, .ref h_this_which, .ref h_this_much, .int v_acts, .int v_sweptMany, .ref h_this_had, .int v_badAct, .int v_badWhy, .int v_sweptAct, .int v_sweptWhich, .ref h_this_rows, .ref h_this_groups, .ref h_this_covers, .ref h_this_byWool, .ref h_this_wins, .ref h_this_kept, .ref h_this_isKept, .int v_keptAt, .int v_isWriting])), (h_this_covers, .inl (cZ, 1024, .inl v_covers)), (h_this_groups, .inl (cI, 1024, .inl v_groups)), (h_this_stitches, .inl (cI, 10, .inl v_stitches))] H := hP
      have hD : va_D A [(h_this, .inr (9, [.int v_present, .ref h_this_wool, .ref h_this_stitches, .ref h_this_place, .int v_chest, .int v_years, .ref h_this_sightSundays, .ref h_this_sightWool, .int v_sights, .ref h_this_pad, .int v_padMany, .ref h_this_act, .ref h_this_which, .ref h_this_much, .int v_acts, .int v_sweptMany, .ref h_this_had, .int v_badAct, .int v_badWhy, .int v_sweptAct, .int v_sweptWhich, .ref h_this_rows, .ref h_this_groups, .ref h_this_covers, .ref h_this_byWool, .ref h_this_wins, .ref h_this_kept, .ref h_this_isKept, .int v_keptAt, .int v_isWriting])), (h_this_covers, .inl (cZ, 1024, .inl v_covers)), (h_this_groups, .inl (cI, 1024, .inl v_groups)), (h_this_stitches, .inl (cI, 10, .inl v_stitches))] := hD
      have hl : lv_has ls 6 [(0, .ref h_this), (1, .int p0), (2, .int p1), (3, .int i_4), (4, .int i_5)] := hl
      refine lv_iload hx hb dX9_most_30 (lv_at hl 4 rfl) ?_
      refine lv_bipush (v := (10 : Int32)) hx hb dX9_most_32 (by decide) ?_
      refine lv_icmp_ge (tgt := 78) hx hb dX9_most_34 (by decide) (fun c_ => ?_) (fun c_ => ?_)
      · replace vc := vc.1 c_
        refine lv_iload_n hx hb dX9_most_78 rfl (lv_at hl 2 rfl) ?_
        refine lv_iconst (v := (1 : Int32)) hx hb dX9_most_79 (by decide) ?_
        refine lv_icmp_ne (tgt := 88) hx hb dX9_most_80 (by decide) (fun c_ => ?_) (fun c_ => ?_)
        · replace vc := vc.1 c_
          refine lv_iconst (v := (0 : Int32)) hx hb dX9_most_88 (by decide) ?_
          refine lv_istore (lv' := [(4, .int (0 : Int32)), (0, .ref h_this), (1, .int p0), (2, .int p1), (3, .int i_4)]) hx hb dX9_most_89 hl (by decide) rfl (fun ls hl => ?_)
          obtain ⟨⟨n0_6, hi0_6⟩, vc⟩ := vc
          refine kloop (V := Int32 × (Nat → Int32) × (Nat → Int32)) (I := fun n v => IX9_most_91 p0 p1 v_present v_covers v_groups v_stitches n p0 i_4 (v.1) (v.2.1) (v.2.2)) (wv := fun v => [(h_this, .inr (9, [.int v_present, .ref h_this_wool, .ref h_this_stitches, .ref h_this_place, .int v_chest, .int v_years, .ref h_this_sightSundays, .ref h_this_sightWool, .int v_sights, .ref h_this_pad, .int v_padMany, .ref h_this_act, .ref h_this_which, .ref h_this_much, .int v_acts, .int v_sweptMany, .ref h_this_had, .int v_badAct, .int v_badWhy, .int v_sweptAct, .int v_sweptWhich, .ref h_this_rows, .ref h_this_groups, .ref h_this_covers, .ref h_this_byWool, .ref h_this_wins, .ref h_this_kept, .ref h_this_isKept, .int v_keptAt, .int v_isWriting])), (h_this_covers, .inl (cZ, 1024, .inl (v.2.1))), (h_this_groups, .inl (cI, 1024, .inl (v.2.2))), (h_this_stitches, .inl (cI, 10, .inl v_stitches))]) (lv := fun v => [(0, .ref h_this), (1, .int p0), (3, .int i_4), (4, .int (v.1))]) n0_6 ((0 : Int32), v_covers, v_groups) hi0_6 hP hD hS (lv_sub hl [1, 2, 4, 0] rfl) ?_
          intro n_6 v_6 hi_6 ih_6 H locs hP hD hS ls hl
          obtain ⟨i_7, f_8, f_9⟩ := v_6
          replace vc := vc n_6 i_7 f_8 f_9 hi_6
          have hP : va_P D vwCl [(h_this, .inr (9, [.int v_present, .ref h_this_wool, .ref h_this_stitches, .ref h_this_place, .int v_chest, .int v_years, .ref h_this_sightSundays, .ref h_this_sightWool, .int v_sights, .ref h_this_pad, .int v_padMany, .ref h_this_act, .ref h_this_which, .ref h_this_much, .int v_acts, .int v_sweptMany, .ref h_this_had, .int v_badAct, .int v_badWhy, .int v_sweptAct, .int v_sweptWhich, .ref h_this_rows, .ref h_this_groups, .ref h_this_covers, .ref h_this_byWool, .ref h_this_wins, .ref h_this_kept, .ref h_this_isKept, .int v_keptAt, .int v_isWriting])), (h_this_covers, .inl (cZ, 1024, .inl f_8)), (h_this_groups, .inl (cI, 1024, .inl f_9)), (h_this_stitches, .inl (cI, 10, .inl v_stitches))] H := hP
          have hD : va_D A [(h_this, .inr (9, [.int v_present, .ref h_this_wool, .ref h_this_stitches, .ref h_this_place, .int v_chest, .int v_years, .ref h_this_sightSundays, .ref h_this_sightWool, .int v_sights, .ref h_this_pad, .int v_padMany, .ref h_this_act, .ref h_this_which, .ref h_this_much, .int v_acts, .int v_sweptMany, .ref h_this_had, .int v_badAct, .int v_badWhy, .int v_sweptAct, .int v_sweptWhich, .ref h_this_rows, .ref h_this_groups, .ref h_this_covers, .ref h_this_byWool, .ref h_this_wins, .ref h_this_kept, .ref h_this_isKept, .int v_keptAt, .int v_isWriting])), (h_this_covers, .inl (cZ, 1024, .inl f_8)), (h_this_groups, .inl (cI, 1024, .inl f_9)), (h_this_stitches, .inl (cI, 10, .inl v_stitches))] := hD
          have hl : lv_has ls 6 [(0, .ref h_this), (1, .int p0), (3, .int i_4), (4, .int i_7)] := hl
          refine lv_iload hx hb dX9_most_91 (lv_at hl 3 rfl) ?_
          refine lv_sipush (v := (1024 : Int32)) hx hb dX9_most_93 (by decide) ?_
          refine lv_icmp_ge (tgt := 175) hx hb dX9_most_96 (by decide) (fun c_ => ?_) (fun c_ => ?_)
          · replace vc := vc.1 c_
            refine lv_aload_n hx hb dX9_most_175 rfl (lv_at hl 0 rfl) ?_
            refine va_get (D := D) (ci := 9) (v := .ref h_this_groups) (C := RX9) (T := TX9) (N := 30) hx hb hts mcX9_most_X9 hown hK.1 hP 0 rfl rfl 22 (by decide) (hts _ mwX9_most_5) (fun _ h9 => h9) rfl dX9_most_176 ?_
            refine lv_iload_n hx hb dX9_most_179 rfl (lv_at hl 2 rfl) ?_
            have hi_10 := vc.1
            replace vc := vc.2
            refine va_iald hx hb hK.1 hP 2 0 rfl rfl hi_10 dX9_most_180 ?_
            exact W.iret (v := (f_9 (i_4).toNatClampNeg)) hx hb hr (fun t ht hW => ⟨⟨(f_9 (i_4).toNatClampNeg), (f_8, f_9), rfl, vc, QB_mk (hP.sub [0, 1, 2, 3] rfl) (hD.sub [0, 1, 2, 3] rfl rfl) ht⟩, hS.F ht⟩) hS.2.2 dX9_most_181
          · replace vc := vc.2 c_
            refine lv_iload hx hb dX9_most_99 (lv_at hl 3 rfl) ?_
            refine lv_iload_n hx hb dX9_most_101 rfl (lv_at hl 2 rfl) ?_
            refine lv_iconst (v := (-1 : Int32)) hx hb dX9_most_102 (by decide) ?_
            refine lv_ixor hx hb dX9_most_103 ?_
            refine lv_iand hx hb dX9_most_104 ?_
            refine lv_if_ne (tgt := 112) hx hb dX9_most_105 (by decide) (fun c_ => ?_) (fun c_ => ?_)
            · replace vc := vc.1 c_
              refine lv_iconst (v := (0 : Int32)) hx hb dX9_most_112 (by decide) ?_
              refine lv_istore (lv' := [(5, .int (0 : Int32)), (0, .ref h_this), (1, .int p0), (3, .int i_4), (4, .int i_7)]) hx hb dX9_most_113 hl (by decide) rfl (fun ls hl => ?_)
              refine lv_aload_n hx hb dX9_most_115 rfl (lv_at hl 1 rfl) ?_
              refine va_get (D := D) (ci := 9) (v := .ref h_this_covers) (C := RX9) (T := TX9) (N := 30) hx hb hts mcX9_most_X9 hown hK.1 hP 0 rfl rfl 23 (by decide) (hts _ mwX9_most_4) (fun _ h9 => h9) rfl dX9_most_116 ?_
              refine lv_iload hx hb dX9_most_119 (lv_at hl 4 rfl) ?_
              refine lv_iload hx hb dX9_most_121 (lv_at hl 0 rfl) ?_
              refine lv_if_eq (tgt := 145) hx hb dX9_most_123 (by decide) (fun _ => ?_) (fun c_ => absurd c_ (by decide))
              refine lv_iconst (v := (0 : Int32)) hx hb dX9_most_145 (by decide) ?_
              have hi_11 := vc.1
              replace vc := vc.2
              refine va_zast hx hb hK.1 hP hD hS 1 1 rfl rfl hi_11 dX9_most_146 (fun H locs hP hD hS => ?_)
              have hP : va_P D vwCl [(h_this, .inr (9, [.int v_present, .ref h_this_wool, .ref h_this_stitches, .ref h_this_place, .int v_chest, .int v_years, .ref h_this_sightSundays, .ref h_this_sightWool, .int v_sights, .ref h_this_pad, .int v_padMany, .ref h_this_act, .ref h_this_which, .ref h_this_much, .int v_acts, .int v_sweptMany, .ref h_this_had, .int v_badAct, .int v_badWhy, .int v_sweptAct, .int v_sweptWhich, .ref h_this_rows, .ref h_this_groups, .ref h_this_covers, .ref h_this_byWool, .ref h_this_wins, .ref h_this_kept, .ref h_this_isKept, .int v_keptAt, .int v_isWriting])), (h_this_covers, .inl (cZ, 1024, .inl (upd f_8 (i_7).toNatClampNeg (vp_nar .boolean (0 : Int32))))), (h_this_groups, .inl (cI, 1024, .inl f_9)), (h_this_stitches, .inl (cI, 10, .inl v_stitches))] H := hP
              have hD : va_D A [(h_this, .inr (9, [.int v_present, .ref h_this_wool, .ref h_this_stitches, .ref h_this_place, .int v_chest, .int v_years, .ref h_this_sightSundays, .ref h_this_sightWool, .int v_sights, .ref h_this_pad, .int v_padMany, .ref h_this_act, .ref h_this_which, .ref h_this_much, .int v_acts, .int v_sweptMany, .ref h_this_had, .int v_badAct, .int v_badWhy, .int v_sweptAct, .int v_sweptWhich, .ref h_this_rows, .ref h_this_groups, .ref h_this_covers, .ref h_this_byWool, .ref h_this_wins, .ref h_this_kept, .ref h_this_isKept, .int v_keptAt, .int v_isWriting])), (h_this_covers, .inl (cZ, 1024, .inl (upd f_8 (i_7).toNatClampNeg (vp_nar .boolean (0 : Int32))))), (h_this_groups, .inl (cI, 1024, .inl f_9)), (h_this_stitches, .inl (cI, 10, .inl v_stitches))] := hD
              refine lv_aload_n hx hb dX9_most_147 rfl (lv_at hl 1 rfl) ?_
              refine va_get (D := D) (ci := 9) (v := .ref h_this_groups) (C := RX9) (T := TX9) (N := 30) hx hb hts mcX9_most_X9 hown hK.1 hP 0 rfl rfl 22 (by decide) (hts _ mwX9_most_5) (fun _ h9 => h9) rfl dX9_most_148 ?_
              refine lv_iload hx hb dX9_most_151 (lv_at hl 4 rfl) ?_
              refine lv_iload hx hb dX9_most_153 (lv_at hl 0 rfl) ?_
              refine lv_if_eq (tgt := 167) hx hb dX9_most_155 (by decide) (fun _ => ?_) (fun c_ => absurd c_ (by decide))
              refine lv_iconst (v := (0 : Int32)) hx hb dX9_most_167 (by decide) ?_
              have hi_12 := vc.1
              replace vc := vc.2
              refine va_iast hx hb hK.1 hP hD hS 2 0 rfl rfl hi_12 dX9_most_168 (fun H locs hP hD hS => ?_)
              have hP : va_P D vwCl [(h_this, .inr (9, [.int v_present, .ref h_this_wool, .ref h_this_stitches, .ref h_this_place, .int v_chest, .int v_years, .ref h_this_sightSundays, .ref h_this_sightWool, .int v_sights, .ref h_this_pad, .int v_padMany, .ref h_this_act, .ref h_this_which, .ref h_this_much, .int v_acts, .int v_sweptMany, .ref h_this_had, .int v_badAct, .int v_badWhy, .int v_sweptAct, .int v_sweptWhich, .ref h_this_rows, .ref h_this_groups, .ref h_this_covers, .ref h_this_byWool, .ref h_this_wins, .ref h_this_kept, .ref h_this_isKept, .int v_keptAt, .int v_isWriting])), (h_this_covers, .inl (cZ, 1024, .inl (upd f_8 (i_7).toNatClampNeg (vp_nar .boolean (0 : Int32))))), (h_this_groups, .inl (cI, 1024, .inl (upd f_9 (i_7).toNatClampNeg (0 : Int32)))), (h_this_stitches, .inl (cI, 10, .inl v_stitches))] H := hP
              have hD : va_D A [(h_this, .inr (9, [.int v_present, .ref h_this_wool, .ref h_this_stitches, .ref h_this_place, .int v_chest, .int v_years, .ref h_this_sightSundays, .ref h_this_sightWool, .int v_sights, .ref h_this_pad, .int v_padMany, .ref h_this_act, .ref h_this_which, .ref h_this_much, .int v_acts, .int v_sweptMany, .ref h_this_had, .int v_badAct, .int v_badWhy, .int v_sweptAct, .int v_sweptWhich, .ref h_this_rows, .ref h_this_groups, .ref h_this_covers, .ref h_this_byWool, .ref h_this_wins, .ref h_this_kept, .ref h_this_isKept, .int v_keptAt, .int v_isWriting])), (h_this_covers, .inl (cZ, 1024, .inl (upd f_8 (i_7).toNatClampNeg (vp_nar .boolean (0 : Int32))))), (h_this_groups, .inl (cI, 1024, .inl (upd f_9 (i_7).toNatClampNeg (0 : Int32)))), (h_this_stitches, .inl (cI, 10, .inl v_stitches))] := hD
              obtain ⟨x_13, ex_13⟩ : ∃ y_ : Int32, y_ = (i_7 + (1 : Int32)) := ⟨_, rfl⟩
              replace vc := vc x_13 ex_13
              refine lv_iinc (v := x_13) (lv' := [(4, .int x_13), (5, .int (0 : Int32)), (0, .ref h_this), (1, .int p0), (3, .int i_4)]) hx hb dX9_most_169 hl (k := 4) rfl (by rw [ex_13]; rfl) (by decide) rfl (fun ls hl => ?_)
              refine lv_goto (tgt := 91) hx hb dX9_most_172 (by decide) ?_
              obtain ⟨n1_, hlt_, hi_⟩ := vc
              exact ih_6 n1_ (x_13, (upd f_8 (i_7).toNatClampNeg (vp_nar .boolean (0 : Int32))), (upd f_9 (i_7).toNatClampNeg (0 : Int32))) hlt_ hi_ _ _ hP hD hS ls (lv_sub hl [2, 3, 4, 0] rfl)
            · replace vc := vc.2 c_
              refine lv_iconst (v := (1 : Int32)) hx hb dX9_most_108 (by decide) ?_
              refine lv_goto (tgt := 113) hx hb dX9_most_109 (by decide) ?_
              refine lv_istore (lv' := [(5, .int (1 : Int32)), (0, .ref h_this), (1, .int p0), (3, .int i_4), (4, .int i_7)]) hx hb dX9_most_113 hl (by decide) rfl (fun ls hl => ?_)
              refine lv_aload_n hx hb dX9_most_115 rfl (lv_at hl 1 rfl) ?_
              refine va_get (D := D) (ci := 9) (v := .ref h_this_covers) (C := RX9) (T := TX9) (N := 30) hx hb hts mcX9_most_X9 hown hK.1 hP 0 rfl rfl 23 (by decide) (hts _ mwX9_most_4) (fun _ h9 => h9) rfl dX9_most_116 ?_
              refine lv_iload hx hb dX9_most_119 (lv_at hl 4 rfl) ?_
              refine lv_iload hx hb dX9_most_121 (lv_at hl 0 rfl) ?_
              refine lv_if_eq (tgt := 145) hx hb dX9_most_123 (by decide) (fun c_ => absurd c_ (by decide)) (fun _ => ?_)
              refine lv_iload hx hb dX9_most_126 (lv_at hl 4 rfl) ?_
              refine lv_if_le (tgt := 145) hx hb dX9_most_128 (by decide) (fun c_ => ?_) (fun c_ => ?_)
              · replace vc := vc.1 c_
                refine lv_iconst (v := (0 : Int32)) hx hb dX9_most_145 (by decide) ?_
                have hi_14 := vc.1
                replace vc := vc.2
                refine va_zast hx hb hK.1 hP hD hS 1 1 rfl rfl hi_14 dX9_most_146 (fun H locs hP hD hS => ?_)
                have hP : va_P D vwCl [(h_this, .inr (9, [.int v_present, .ref h_this_wool, .ref h_this_stitches, .ref h_this_place, .int v_chest, .int v_years, .ref h_this_sightSundays, .ref h_this_sightWool, .int v_sights, .ref h_this_pad, .int v_padMany, .ref h_this_act, .ref h_this_which, .ref h_this_much, .int v_acts, .int v_sweptMany, .ref h_this_had, .int v_badAct, .int v_badWhy, .int v_sweptAct, .int v_sweptWhich, .ref h_this_rows, .ref h_this_groups, .ref h_this_covers, .ref h_this_byWool, .ref h_this_wins, .ref h_this_kept, .ref h_this_isKept, .int v_keptAt, .int v_isWriting])), (h_this_covers, .inl (cZ, 1024, .inl (upd f_8 (i_7).toNatClampNeg (vp_nar .boolean (0 : Int32))))), (h_this_groups, .inl (cI, 1024, .inl f_9)), (h_this_stitches, .inl (cI, 10, .inl v_stitches))] H := hP
                have hD : va_D A [(h_this, .inr (9, [.int v_present, .ref h_this_wool, .ref h_this_stitches, .ref h_this_place, .int v_chest, .int v_years, .ref h_this_sightSundays, .ref h_this_sightWool, .int v_sights, .ref h_this_pad, .int v_padMany, .ref h_this_act, .ref h_this_which, .ref h_this_much, .int v_acts, .int v_sweptMany, .ref h_this_had, .int v_badAct, .int v_badWhy, .int v_sweptAct, .int v_sweptWhich, .ref h_this_rows, .ref h_this_groups, .ref h_this_covers, .ref h_this_byWool, .ref h_this_wins, .ref h_this_kept, .ref h_this_isKept, .int v_keptAt, .int v_isWriting])), (h_this_covers, .inl (cZ, 1024, .inl (upd f_8 (i_7).toNatClampNeg (vp_nar .boolean (0 : Int32))))), (h_this_groups, .inl (cI, 1024, .inl f_9)), (h_this_stitches, .inl (cI, 10, .inl v_stitches))] := hD
                refine lv_aload_n hx hb dX9_most_147 rfl (lv_at hl 1 rfl) ?_
                refine va_get (D := D) (ci := 9) (v := .ref h_this_groups) (C := RX9) (T := TX9) (N := 30) hx hb hts mcX9_most_X9 hown hK.1 hP 0 rfl rfl 22 (by decide) (hts _ mwX9_most_5) (fun _ h9 => h9) rfl dX9_most_148 ?_
                refine lv_iload hx hb dX9_most_151 (lv_at hl 4 rfl) ?_
                refine lv_iload hx hb dX9_most_153 (lv_at hl 0 rfl) ?_
                refine lv_if_eq (tgt := 167) hx hb dX9_most_155 (by decide) (fun c_ => absurd c_ (by decide)) (fun _ => ?_)
                refine lv_aload_n hx hb dX9_most_158 rfl (lv_at hl 1 rfl) ?_
                refine lv_iload hx hb dX9_most_159 (lv_at hl 4 rfl) ?_
                refine kj_i (wr := [(h_this_stitches, .inl (cI, 10, .inl v_stitches))]) (rest := [.int i_7, .ref h_this_groups]) (kV ⟨hx, hb, hml, hown, hts⟩ (kX9_groupsOf _ h_this h_this_wool h_this_stitches h_this_place h_this_sightSundays h_this_sightWool h_this_pad h_this_act h_this_which h_this_much h_this_had h_this_rows h_this_groups h_this_covers h_this_byWool h_this_wins h_this_kept h_this_isKept i_7 v_present v_chest v_years v_sights v_padMany v_acts v_sweptMany v_badAct v_badWhy v_sweptAct v_sweptWhich v_keptAt v_isWriting (upd f_8 (i_7).toNatClampNeg (vp_nar .boolean (0 : Int32))) f_9 vc.1) (cwV 1 hts gX9_most_X9_groupsOf rfl rfl rfl (by decide +kernel) ⟨(Nat.le_of_ble_eq_true rfl), (Nat.le_of_ble_eq_true rfl)⟩) hK hP hD [0, 1, 2] rfl rfl 0 9 rfl rfl rfl rfl rfl hl.1 (Nat.le_of_ble_eq_true rfl) dX9_most_161 ⟨(Nat.le_of_ble_eq_true rfl), (Nat.le_of_ble_eq_true rfl)⟩) hP hD hS hA [0, 1, 2] [3] rfl rfl rfl rfl (fun r_15 u_ H locs hq_ hP hD hS => ?_)
                replace vc := vc.2 r_15  hq_
                have hP : va_P D vwCl [(h_this_stitches, .inl (cI, 10, .inl v_stitches)), (h_this, .inr (9, [.int v_present, .ref h_this_wool, .ref h_this_stitches, .ref h_this_place, .int v_chest, .int v_years, .ref h_this_sightSundays, .ref h_this_sightWool, .int v_sights, .ref h_this_pad, .int v_padMany, .ref h_this_act, .ref h_this_which, .ref h_this_much, .int v_acts, .int v_sweptMany, .ref h_this_had, .int v_badAct, .int v_badWhy, .int v_sweptAct, .int v_sweptWhich, .ref h_this_rows, .ref h_this_groups, .ref h_this_covers, .ref h_this_byWool, .ref h_this_wins, .ref h_this_kept, .ref h_this_isKept, .int v_keptAt, .int v_isWriting])), (h_this_covers, .inl (cZ, 1024, .inl (upd f_8 (i_7).toNatClampNeg (vp_nar .boolean (0 : Int32))))), (h_this_groups, .inl (cI, 1024, .inl f_9))] H := hP
                have hD : va_D A [(h_this_stitches, .inl (cI, 10, .inl v_stitches)), (h_this, .inr (9, [.int v_present, .ref h_this_wool, .ref h_this_stitches, .ref h_this_place, .int v_chest, .int v_years, .ref h_this_sightSundays, .ref h_this_sightWool, .int v_sights, .ref h_this_pad, .int v_padMany, .ref h_this_act, .ref h_this_which, .ref h_this_much, .int v_acts, .int v_sweptMany, .ref h_this_had, .int v_badAct, .int v_badWhy, .int v_sweptAct, .int v_sweptWhich, .ref h_this_rows, .ref h_this_groups, .ref h_this_covers, .ref h_this_byWool, .ref h_this_wins, .ref h_this_kept, .ref h_this_isKept, .int v_keptAt, .int v_isWriting])), (h_this_covers, .inl (cZ, 1024, .inl (upd f_8 (i_7).toNatClampNeg (vp_nar .boolean (0 : Int32))))), (h_this_groups, .inl (cI, 1024, .inl f_9))] := hD
                refine lv_goto (tgt := 168) hx hb dX9_most_164 (by decide) ?_
                have hi_16 := vc.1
                replace vc := vc.2
                refine va_iast hx hb hK.1 hP hD hS 3 0 rfl rfl hi_16 dX9_most_168 (fun H locs hP hD hS => ?_)
                have hP : va_P D vwCl [(h_this_stitches, .inl (cI, 10, .inl v_stitches)), (h_this, .inr (9, [.int v_present, .ref h_this_wool, .ref h_this_stitches, .ref h_this_place, .int v_chest, .int v_years, .ref h_this_sightSundays, .ref h_this_sightWool, .int v_sights, .ref h_this_pad, .int v_padMany, .ref h_this_act, .ref h_this_which, .ref h_this_much, .int v_acts, .int v_sweptMany, .ref h_this_had, .int v_badAct, .int v_badWhy, .int v_sweptAct, .int v_sweptWhich, .ref h_this_rows, .ref h_this_groups, .ref h_this_covers, .ref h_this_byWool, .ref h_this_wins, .ref h_this_kept, .ref h_this_isKept, .int v_keptAt, .int v_isWriting])), (h_this_covers, .inl (cZ, 1024, .inl (upd f_8 (i_7).toNatClampNeg (vp_nar .boolean (0 : Int32))))), (h_this_groups, .inl (cI, 1024, .inl (upd f_9 (i_7).toNatClampNeg r_15)))] H := hP
                have hD : va_D A [(h_this_stitches, .inl (cI, 10, .inl v_stitches)), (h_this, .inr (9, [.int v_present, .ref h_this_wool, .ref h_this_stitches, .ref h_this_place, .int v_chest, .int v_years, .ref h_this_sightSundays, .ref h_this_sightWool, .int v_sights, .ref h_this_pad, .int v_padMany, .ref h_this_act, .ref h_this_which, .ref h_this_much, .int v_acts, .int v_sweptMany, .ref h_this_had, .int v_badAct, .int v_badWhy, .int v_sweptAct, .int v_sweptWhich, .ref h_this_rows, .ref h_this_groups, .ref h_this_covers, .ref h_this_byWool, .ref h_this_wins, .ref h_this_kept, .ref h_this_isKept, .int v_keptAt, .int v_isWriting])), (h_this_covers, .inl (cZ, 1024, .inl (upd f_8 (i_7).toNatClampNeg (vp_nar .boolean (0 : Int32))))), (h_this_groups, .inl (cI, 1024, .inl (upd f_9 (i_7).toNatClampNeg r_15)))] := hD
                obtain ⟨x_17, ex_17⟩ : ∃ y_ : Int32, y_ = (i_7 + (1 : Int32)) := ⟨_, rfl⟩
                replace vc := vc x_17 ex_17
                refine lv_iinc (v := x_17) (lv' := [(4, .int x_17), (5, .int (1 : Int32)), (0, .ref h_this), (1, .int p0), (3, .int i_4)]) hx hb dX9_most_169 hl (k := 4) rfl (by rw [ex_17]; rfl) (by decide) rfl (fun ls hl => ?_)
                refine lv_goto (tgt := 91) hx hb dX9_most_172 (by decide) ?_
                obtain ⟨n1_, hlt_, hi_⟩ := vc
                exact ih_6 n1_ (x_17, (upd f_8 (i_7).toNatClampNeg (vp_nar .boolean (0 : Int32))), (upd f_9 (i_7).toNatClampNeg r_15)) hlt_ hi_ _ _ (hP.sub [1, 2, 3, 0] rfl) (hD.sub [1, 2, 3, 0] rfl rfl) hS ls (lv_sub hl [2, 3, 4, 0] rfl)
              · replace vc := vc.2 c_
                refine lv_aload_n hx hb dX9_most_131 rfl (lv_at hl 1 rfl) ?_
                refine lv_iload hx hb dX9_most_132 (lv_at hl 4 rfl) ?_
                refine lv_iload_n hx hb dX9_most_134 rfl (lv_at hl 2 rfl) ?_
                refine kj_i (wr := [(h_this_covers, .inl (cZ, 1024, .inl f_8)), (h_this_groups, .inl (cI, 1024, .inl f_9))]) (rest := [.int i_7, .ref h_this_covers]) (kV ⟨hx, hb, hml, hown, hts⟩ (kX9_isCover _ h_this h_this_wool h_this_stitches h_this_place h_this_sightSundays h_this_sightWool h_this_pad h_this_act h_this_which h_this_much h_this_had h_this_rows h_this_groups h_this_covers h_this_byWool h_this_wins h_this_kept h_this_isKept i_7 p0 v_present v_chest v_years v_sights v_padMany v_acts v_sweptMany v_badAct v_badWhy v_sweptAct v_sweptWhich v_keptAt v_isWriting v_stitches vc.1) (cwV 2 hts gX9_most_X9_isCover rfl rfl rfl (by decide +kernel) ⟨(Nat.le_of_ble_eq_true rfl), (Nat.le_of_ble_eq_true rfl)⟩) hK hP hD [0, 3] rfl rfl 0 9 rfl rfl rfl rfl rfl hl.1 (Nat.le_of_ble_eq_true rfl) dX9_most_135 ⟨(Nat.le_of_ble_eq_true rfl), (Nat.le_of_ble_eq_true rfl)⟩) hP hD hS hA [0, 3] [1, 2] rfl rfl rfl rfl (fun r_18 u_ H locs hq_ hP hD hS => ?_)
                replace vc := vc.2 r_18  hq_
                have hP : va_P D vwCl [(h_this_covers, .inl (cZ, 1024, .inl f_8)), (h_this_groups, .inl (cI, 1024, .inl f_9)), (h_this, .inr (9, [.int v_present, .ref h_this_wool, .ref h_this_stitches, .ref h_this_place, .int v_chest, .int v_years, .ref h_this_sightSundays, .ref h_this_sightWool, .int v_sights, .ref h_this_pad, .int v_padMany, .ref h_this_act, .ref h_this_which, .ref h_this_much, .int v_acts, .int v_sweptMany, .ref h_this_had, .int v_badAct, .int v_badWhy, .int v_sweptAct, .int v_sweptWhich, .ref h_this_rows, .ref h_this_groups, .ref h_this_covers, .ref h_this_byWool, .ref h_this_wins, .ref h_this_kept, .ref h_this_isKept, .int v_keptAt, .int v_isWriting])), (h_this_stitches, .inl (cI, 10, .inl v_stitches))] H := hP
                have hD : va_D A [(h_this_covers, .inl (cZ, 1024, .inl f_8)), (h_this_groups, .inl (cI, 1024, .inl f_9)), (h_this, .inr (9, [.int v_present, .ref h_this_wool, .ref h_this_stitches, .ref h_this_place, .int v_chest, .int v_years, .ref h_this_sightSundays, .ref h_this_sightWool, .int v_sights, .ref h_this_pad, .int v_padMany, .ref h_this_act, .ref h_this_which, .ref h_this_much, .int v_acts, .int v_sweptMany, .ref h_this_had, .int v_badAct, .int v_badWhy, .int v_sweptAct, .int v_sweptWhich, .ref h_this_rows, .ref h_this_groups, .ref h_this_covers, .ref h_this_byWool, .ref h_this_wins, .ref h_this_kept, .ref h_this_isKept, .int v_keptAt, .int v_isWriting])), (h_this_stitches, .inl (cI, 10, .inl v_stitches))] := hD
                refine lv_if_eq (tgt := 145) hx hb dX9_most_138 (by decide) (fun c_ => ?_) (fun c_ => ?_)
                · replace vc := vc.1 c_
                  refine lv_iconst (v := (0 : Int32)) hx hb dX9_most_145 (by decide) ?_
                  have hi_19 := vc.1
                  replace vc := vc.2
                  refine va_zast hx hb hK.1 hP hD hS 0 1 rfl rfl hi_19 dX9_most_146 (fun H locs hP hD hS => ?_)
                  have hP : va_P D vwCl [(h_this_covers, .inl (cZ, 1024, .inl (upd f_8 (i_7).toNatClampNeg (vp_nar .boolean (0 : Int32))))), (h_this_groups, .inl (cI, 1024, .inl f_9)), (h_this, .inr (9, [.int v_present, .ref h_this_wool, .ref h_this_stitches, .ref h_this_place, .int v_chest, .int v_years, .ref h_this_sightSundays, .ref h_this_sightWool, .int v_sights, .ref h_this_pad, .int v_padMany, .ref h_this_act, .ref h_this_which, .ref h_this_much, .int v_acts, .int v_sweptMany, .ref h_this_had, .int v_badAct, .int v_badWhy, .int v_sweptAct, .int v_sweptWhich, .ref h_this_rows, .ref h_this_groups, .ref h_this_covers, .ref h_this_byWool, .ref h_this_wins, .ref h_this_kept, .ref h_this_isKept, .int v_keptAt, .int v_isWriting])), (h_this_stitches, .inl (cI, 10, .inl v_stitches))] H := hP
                  have hD : va_D A [(h_this_covers, .inl (cZ, 1024, .inl (upd f_8 (i_7).toNatClampNeg (vp_nar .boolean (0 : Int32))))), (h_this_groups, .inl (cI, 1024, .inl f_9)), (h_this, .inr (9, [.int v_present, .ref h_this_wool, .ref h_this_stitches, .ref h_this_place, .int v_chest, .int v_years, .ref h_this_sightSundays, .ref h_this_sightWool, .int v_sights, .ref h_this_pad, .int v_padMany, .ref h_this_act, .ref h_this_which, .ref h_this_much, .int v_acts, .int v_sweptMany, .ref h_this_had, .int v_badAct, .int v_badWhy, .int v_sweptAct, .int v_sweptWhich, .ref h_this_rows, .ref h_this_groups, .ref h_this_covers, .ref h_this_byWool, .ref h_this_wins, .ref h_this_kept, .ref h_this_isKept, .int v_keptAt, .int v_isWriting])), (h_this_stitches, .inl (cI, 10, .inl v_stitches))] := hD
                  refine lv_aload_n hx hb dX9_most_147 rfl (lv_at hl 1 rfl) ?_
                  refine va_get (D := D) (ci := 9) (v := .ref h_this_groups) (C := RX9) (T := TX9) (N := 30) hx hb hts mcX9_most_X9 hown hK.1 hP 2 rfl rfl 22 (by decide) (hts _ mwX9_most_5) (fun _ h9 => h9) rfl dX9_most_148 ?_
                  refine lv_iload hx hb dX9_most_151 (lv_at hl 4 rfl) ?_
                  refine lv_iload hx hb dX9_most_153 (lv_at hl 0 rfl) ?_
                  refine lv_if_eq (tgt := 167) hx hb dX9_most_155 (by decide) (fun c_ => absurd c_ (by decide)) (fun _ => ?_)
                  refine lv_aload_n hx hb dX9_most_158 rfl (lv_at hl 1 rfl) ?_
                  refine lv_iload hx hb dX9_most_159 (lv_at hl 4 rfl) ?_
                  refine kj_i (wr := [(h_this_stitches, .inl (cI, 10, .inl v_stitches))]) (rest := [.int i_7, .ref h_this_groups]) (kV ⟨hx, hb, hml, hown, hts⟩ (kX9_groupsOf _ h_this h_this_wool h_this_stitches h_this_place h_this_sightSundays h_this_sightWool h_this_pad h_this_act h_this_which h_this_much h_this_had h_this_rows h_this_groups h_this_covers h_this_byWool h_this_wins h_this_kept h_this_isKept i_7 v_present v_chest v_years v_sights v_padMany v_acts v_sweptMany v_badAct v_badWhy v_sweptAct v_sweptWhich v_keptAt v_isWriting (upd f_8 (i_7).toNatClampNeg (vp_nar .boolean (0 : Int32))) f_9 vc.1) (cwV 1 hts gX9_most_X9_groupsOf rfl rfl rfl (by decide +kernel) ⟨(Nat.le_of_ble_eq_true rfl), (Nat.le_of_ble_eq_true rfl)⟩) hK hP hD [2, 0, 1] rfl rfl 0 9 rfl rfl rfl rfl rfl hl.1 (Nat.le_of_ble_eq_true rfl) dX9_most_161 ⟨(Nat.le_of_ble_eq_true rfl), (Nat.le_of_ble_eq_true rfl)⟩) hP hD hS hA [2, 0, 1] [3] rfl rfl rfl rfl (fun r_20 u_ H locs hq_ hP hD hS => ?_)
                  replace vc := vc.2 r_20  hq_
                  have hP : va_P D vwCl [(h_this_stitches, .inl (cI, 10, .inl v_stitches)), (h_this, .inr (9, [.int v_present, .ref h_this_wool, .ref h_this_stitches, .ref h_this_place, .int v_chest, .int v_years, .ref h_this_sightSundays, .ref h_this_sightWool, .int v_sights, .ref h_this_pad, .int v_padMany, .ref h_this_act, .ref h_this_which, .ref h_this_much, .int v_acts, .int v_sweptMany, .ref h_this_had, .int v_badAct, .int v_badWhy, .int v_sweptAct, .int v_sweptWhich, .ref h_this_rows, .ref h_this_groups, .ref h_this_covers, .ref h_this_byWool, .ref h_this_wins, .ref h_this_kept, .ref h_this_isKept, .int v_keptAt, .int v_isWriting])), (h_this_covers, .inl (cZ, 1024, .inl (upd f_8 (i_7).toNatClampNeg (vp_nar .boolean (0 : Int32))))), (h_this_groups, .inl (cI, 1024, .inl f_9))] H := hP
                  have hD : va_D A [(h_this_stitches, .inl (cI, 10, .inl v_stitches)), (h_this, .inr (9, [.int v_present, .ref h_this_wool, .ref h_this_stitches, .ref h_this_place, .int v_chest, .int v_years, .ref h_this_sightSundays, .ref h_this_sightWool, .int v_sights, .ref h_this_pad, .int v_padMany, .ref h_this_act, .ref h_this_which, .ref h_this_much, .int v_acts, .int v_sweptMany, .ref h_this_had, .int v_badAct, .int v_badWhy, .int v_sweptAct, .int v_sweptWhich, .ref h_this_rows, .ref h_this_groups, .ref h_this_covers, .ref h_this_byWool, .ref h_this_wins, .ref h_this_kept, .ref h_this_isKept, .int v_keptAt, .int v_isWriting])), (h_this_covers, .inl (cZ, 1024, .inl (upd f_8 (i_7).toNatClampNeg (vp_nar .boolean (0 : Int32))))), (h_this_groups, .inl (cI, 1024, .inl f_9))] := hD
                  refine lv_goto (tgt := 168) hx hb dX9_most_164 (by decide) ?_
                  have hi_21 := vc.1
                  replace vc := vc.2
                  refine va_iast hx hb hK.1 hP hD hS 3 0 rfl rfl hi_21 dX9_most_168 (fun H locs hP hD hS => ?_)
                  have hP : va_P D vwCl [(h_this_stitches, .inl (cI, 10, .inl v_stitches)), (h_this, .inr (9, [.int v_present, .ref h_this_wool, .ref h_this_stitches, .ref h_this_place, .int v_chest, .int v_years, .ref h_this_sightSundays, .ref h_this_sightWool, .int v_sights, .ref h_this_pad, .int v_padMany, .ref h_this_act, .ref h_this_which, .ref h_this_much, .int v_acts, .int v_sweptMany, .ref h_this_had, .int v_badAct, .int v_badWhy, .int v_sweptAct, .int v_sweptWhich, .ref h_this_rows, .ref h_this_groups, .ref h_this_covers, .ref h_this_byWool, .ref h_this_wins, .ref h_this_kept, .ref h_this_isKept, .int v_keptAt, .int v_isWriting])), (h_this_covers, .inl (cZ, 1024, .inl (upd f_8 (i_7).toNatClampNeg (vp_nar .boolean (0 : Int32))))), (h_this_groups, .inl (cI, 1024, .inl (upd f_9 (i_7).toNatClampNeg r_20)))] H := hP
                  have hD : va_D A [(h_this_stitches, .inl (cI, 10, .inl v_stitches)), (h_this, .inr (9, [.int v_present, .ref h_this_wool, .ref h_this_stitches, .ref h_this_place, .int v_chest, .int v_years, .ref h_this_sightSundays, .ref h_this_sightWool, .int v_sights, .ref h_this_pad, .int v_padMany, .ref h_this_act, .ref h_this_which, .ref h_this_much, .int v_acts, .int v_sweptMany, .ref h_this_had, .int v_badAct, .int v_badWhy, .int v_sweptAct, .int v_sweptWhich, .ref h_this_rows, .ref h_this_groups, .ref h_this_covers, .ref h_this_byWool, .ref h_this_wins, .ref h_this_kept, .ref h_this_isKept, .int v_keptAt, .int v_isWriting])), (h_this_covers, .inl (cZ, 1024, .inl (upd f_8 (i_7).toNatClampNeg (vp_nar .boolean (0 : Int32))))), (h_this_groups, .inl (cI, 1024, .inl (upd f_9 (i_7).toNatClampNeg r_20)))] := hD
                  obtain ⟨x_22, ex_22⟩ : ∃ y_ : Int32, y_ = (i_7 + (1 : Int32)) := ⟨_, rfl⟩
                  replace vc := vc x_22 ex_22
                  refine lv_iinc (v := x_22) (lv' := [(4, .int x_22), (5, .int (1 : Int32)), (0, .ref h_this), (1, .int p0), (3, .int i_4)]) hx hb dX9_most_169 hl (k := 4) rfl (by rw [ex_22]; rfl) (by decide) rfl (fun ls hl => ?_)
                  refine lv_goto (tgt := 91) hx hb dX9_most_172 (by decide) ?_
                  obtain ⟨n1_, hlt_, hi_⟩ := vc
                  exact ih_6 n1_ (x_22, (upd f_8 (i_7).toNatClampNeg (vp_nar .boolean (0 : Int32))), (upd f_9 (i_7).toNatClampNeg r_20)) hlt_ hi_ _ _ (hP.sub [1, 2, 3, 0] rfl) (hD.sub [1, 2, 3, 0] rfl rfl) hS ls (lv_sub hl [2, 3, 4, 0] rfl)
                · replace vc := vc.2 c_
                  refine lv_iconst (v := (1 : Int32)) hx hb dX9_most_141 (by decide) ?_
                  refine lv_goto (tgt := 146) hx hb dX9_most_142 (by decide) ?_
                  have hi_23 := vc.1
                  replace vc := vc.2
                  refine va_zast hx hb hK.1 hP hD hS 0 1 rfl rfl hi_23 dX9_most_146 (fun H locs hP hD hS => ?_)
                  have hP : va_P D vwCl [(h_this_covers, .inl (cZ, 1024, .inl (upd f_8 (i_7).toNatClampNeg (vp_nar .boolean (1 : Int32))))), (h_this_groups, .inl (cI, 1024, .inl f_9)), (h_this, .inr (9, [.int v_present, .ref h_this_wool, .ref h_this_stitches, .ref h_this_place, .int v_chest, .int v_years, .ref h_this_sightSundays, .ref h_this_sightWool, .int v_sights, .ref h_this_pad, .int v_padMany, .ref h_this_act, .ref h_this_which, .ref h_this_much, .int v_acts, .int v_sweptMany, .ref h_this_had, .int v_badAct, .int v_badWhy, .int v_sweptAct, .int v_sweptWhich, .ref h_this_rows, .ref h_this_groups, .ref h_this_covers, .ref h_this_byWool, .ref h_this_wins, .ref h_this_kept, .ref h_this_isKept, .int v_keptAt, .int v_isWriting])), (h_this_stitches, .inl (cI, 10, .inl v_stitches))] H := hP
                  have hD : va_D A [(h_this_covers, .inl (cZ, 1024, .inl (upd f_8 (i_7).toNatClampNeg (vp_nar .boolean (1 : Int32))))), (h_this_groups, .inl (cI, 1024, .inl f_9)), (h_this, .inr (9, [.int v_present, .ref h_this_wool, .ref h_this_stitches, .ref h_this_place, .int v_chest, .int v_years, .ref h_this_sightSundays, .ref h_this_sightWool, .int v_sights, .ref h_this_pad, .int v_padMany, .ref h_this_act, .ref h_this_which, .ref h_this_much, .int v_acts, .int v_sweptMany, .ref h_this_had, .int v_badAct, .int v_badWhy, .int v_sweptAct, .int v_sweptWhich, .ref h_this_rows, .ref h_this_groups, .ref h_this_covers, .ref h_this_byWool, .ref h_this_wins, .ref h_this_kept, .ref h_this_isKept, .int v_keptAt, .int v_isWriting])), (h_this_stitches, .inl (cI, 10, .inl v_stitches))] := hD
                  refine lv_aload_n hx hb dX9_most_147 rfl (lv_at hl 1 rfl) ?_
                  refine va_get (D := D) (ci := 9) (v := .ref h_this_groups) (C := RX9) (T := TX9) (N := 30) hx hb hts mcX9_most_X9 hown hK.1 hP 2 rfl rfl 22 (by decide) (hts _ mwX9_most_5) (fun _ h9 => h9) rfl dX9_most_148 ?_
                  refine lv_iload hx hb dX9_most_151 (lv_at hl 4 rfl) ?_
                  refine lv_iload hx hb dX9_most_153 (lv_at hl 0 rfl) ?_
                  refine lv_if_eq (tgt := 167) hx hb dX9_most_155 (by decide) (fun c_ => absurd c_ (by decide)) (fun _ => ?_)
                  refine lv_aload_n hx hb dX9_most_158 rfl (lv_at hl 1 rfl) ?_
                  refine lv_iload hx hb dX9_most_159 (lv_at hl 4 rfl) ?_
                  refine kj_i (wr := [(h_this_stitches, .inl (cI, 10, .inl v_stitches))]) (rest := [.int i_7, .ref h_this_groups]) (kV ⟨hx, hb, hml, hown, hts⟩ (kX9_groupsOf _ h_this h_this_wool h_this_stitches h_this_place h_this_sightSundays h_this_sightWool h_this_pad h_this_act h_this_which h_this_much h_this_had h_this_rows h_this_groups h_this_covers h_this_byWool h_this_wins h_this_kept h_this_isKept i_7 v_present v_chest v_years v_sights v_padMany v_acts v_sweptMany v_badAct v_badWhy v_sweptAct v_sweptWhich v_keptAt v_isWriting (upd f_8 (i_7).toNatClampNeg (vp_nar .boolean (1 : Int32))) f_9 vc.1) (cwV 1 hts gX9_most_X9_groupsOf rfl rfl rfl (by decide +kernel) ⟨(Nat.le_of_ble_eq_true rfl), (Nat.le_of_ble_eq_true rfl)⟩) hK hP hD [2, 0, 1] rfl rfl 0 9 rfl rfl rfl rfl rfl hl.1 (Nat.le_of_ble_eq_true rfl) dX9_most_161 ⟨(Nat.le_of_ble_eq_true rfl), (Nat.le_of_ble_eq_true rfl)⟩) hP hD hS hA [2, 0, 1] [3] rfl rfl rfl rfl (fun r_24 u_ H locs hq_ hP hD hS => ?_)
                  replace vc := vc.2 r_24  hq_
                  have hP : va_P D vwCl [(h_this_stitches, .inl (cI, 10, .inl v_stitches)), (h_this, .inr (9, [.int v_present, .ref h_this_wool, .ref h_this_stitches, .ref h_this_place, .int v_chest, .int v_years, .ref h_this_sightSundays, .ref h_this_sightWool, .int v_sights, .ref h_this_pad, .int v_padMany, .ref h_this_act, .ref h_this_which, .ref h_this_much, .int v_acts, .int v_sweptMany, .ref h_this_had, .int v_badAct, .int v_badWhy, .int v_sweptAct, .int v_sweptWhich, .ref h_this_rows, .ref h_this_groups, .ref h_this_covers, .ref h_this_byWool, .ref h_this_wins, .ref h_this_kept, .ref h_this_isKept, .int v_keptAt, .int v_isWriting])), (h_this_covers, .inl (cZ, 1024, .inl (upd f_8 (i_7).toNatClampNeg (vp_nar .boolean (1 : Int32))))), (h_this_groups, .inl (cI, 1024, .inl f_9))] H := hP
                  have hD : va_D A [(h_this_stitches, .inl (cI, 10, .inl v_stitches)), (h_this, .inr (9, [.int v_present, .ref h_this_wool, .ref h_this_stitches, .ref h_this_place, .int v_chest, .int v_years, .ref h_this_sightSundays, .ref h_this_sightWool, .int v_sights, .ref h_this_pad, .int v_padMany, .ref h_this_act, .ref h_this_which, .ref h_this_much, .int v_acts, .int v_sweptMany, .ref h_this_had, .int v_badAct, .int v_badWhy, .int v_sweptAct, .int v_sweptWhich, .ref h_this_rows, .ref h_this_groups, .ref h_this_covers, .ref h_this_byWool, .ref h_this_wins, .ref h_this_kept, .ref h_this_isKept, .int v_keptAt, .int v_isWriting])), (h_this_covers, .inl (cZ, 1024, .inl (upd f_8 (i_7).toNatClampNeg (vp_nar .boolean (1 : Int32))))), (h_this_groups, .inl (cI, 1024, .inl f_9))] := hD
                  refine lv_goto (tgt := 168) hx hb dX9_most_164 (by decide) ?_
                  have hi_25 := vc.1
                  replace vc := vc.2
                  refine va_iast hx hb hK.1 hP hD hS 3 0 rfl rfl hi_25 dX9_most_168 (fun H locs hP hD hS => ?_)
                  have hP : va_P D vwCl [(h_this_stitches, .inl (cI, 10, .inl v_stitches)), (h_this, .inr (9, [.int v_present, .ref h_this_wool, .ref h_this_stitches, .ref h_this_place, .int v_chest, .int v_years, .ref h_this_sightSundays, .ref h_this_sightWool, .int v_sights, .ref h_this_pad, .int v_padMany, .ref h_this_act, .ref h_this_which, .ref h_this_much, .int v_acts, .int v_sweptMany, .ref h_this_had, .int v_badAct, .int v_badWhy, .int v_sweptAct, .int v_sweptWhich, .ref h_this_rows, .ref h_this_groups, .ref h_this_covers, .ref h_this_byWool, .ref h_this_wins, .ref h_this_kept, .ref h_this_isKept, .int v_keptAt, .int v_isWriting])), (h_this_covers, .inl (cZ, 1024, .inl (upd f_8 (i_7).toNatClampNeg (vp_nar .boolean (1 : Int32))))), (h_this_groups, .inl (cI, 1024, .inl (upd f_9 (i_7).toNatClampNeg r_24)))] H := hP
                  have hD : va_D A [(h_this_stitches, .inl (cI, 10, .inl v_stitches)), (h_this, .inr (9, [.int v_present, .ref h_this_wool, .ref h_this_stitches, .ref h_this_place, .int v_chest, .int v_years, .ref h_this_sightSundays, .ref h_this_sightWool, .int v_sights, .ref h_this_pad, .int v_padMany, .ref h_this_act, .ref h_this_which, .ref h_this_much, .int v_acts, .int v_sweptMany, .ref h_this_had, .int v_badAct, .int v_badWhy, .int v_sweptAct, .int v_sweptWhich, .ref h_this_rows, .ref h_this_groups, .ref h_this_covers, .ref h_this_byWool, .ref h_this_wins, .ref h_this_kept, .ref h_this_isKept, .int v_keptAt, .int v_isWriting])), (h_this_covers, .inl (cZ, 1024, .inl (upd f_8 (i_7).toNatClampNeg (vp_nar .boolean (1 : Int32))))), (h_this_groups, .inl (cI, 1024, .inl (upd f_9 (i_7).toNatClampNeg r_24)))] := hD
                  obtain ⟨x_26, ex_26⟩ : ∃ y_ : Int32, y_ = (i_7 + (1 : Int32)) := ⟨_, rfl⟩
                  replace vc := vc x_26 ex_26
                  refine lv_iinc (v := x_26) (lv' := [(4, .int x_26), (5, .int (1 : Int32)), (0, .ref h_this), (1, .int p0), (3, .int i_4)]) hx hb dX9_most_169 hl (k := 4) rfl (by rw [ex_26]; rfl) (by decide) rfl (fun ls hl => ?_)
                  refine lv_goto (tgt := 91) hx hb dX9_most_172 (by decide) ?_
                  obtain ⟨n1_, hlt_, hi_⟩ := vc
                  exact ih_6 n1_ (x_26, (upd f_8 (i_7).toNatClampNeg (vp_nar .boolean (1 : Int32))), (upd f_9 (i_7).toNatClampNeg r_24)) hlt_ hi_ _ _ (hP.sub [1, 2, 3, 0] rfl) (hD.sub [1, 2, 3, 0] rfl rfl) hS ls (lv_sub hl [2, 3, 4, 0] rfl)
        · replace vc := vc.2 c_
          refine lv_iload_n hx hb dX9_most_83 rfl (lv_at hl 3 rfl) ?_
          refine kj0_i (rest := []) (kS ⟨hx, hb, hml, hown, hts⟩ (kX9_ones _ i_4 vc.1) (va_cwS 1 hts gX9_most_X9_ones rfl rfl rfl (by decide +kernel) ⟨(Nat.le_of_ble_eq_true rfl), (Nat.le_of_ble_eq_true rfl)⟩) hK rfl rfl hl.1 (Nat.le_of_ble_eq_true rfl) dX9_most_84 ⟨(Nat.le_of_ble_eq_true rfl), (Nat.le_of_ble_eq_true rfl)⟩) hP hS hA (fun r_27 H locs hq_ hP hS => ?_)
          replace vc := vc.2 r_27 hq_
          have hP : va_P D vwCl [(h_this, .inr (9, [.int v_present, .ref h_this_wool, .ref h_this_stitches, .ref h_this_place, .int v_chest, .int v_years, .ref h_this_sightSundays, .ref h_this_sightWool, .int v_sights, .ref h_this_pad, .int v_padMany, .ref h_this_act, .ref h_this_which, .ref h_this_much, .int v_acts, .int v_sweptMany, .ref h_this_had, .int v_badAct, .int v_badWhy, .int v_sweptAct, .int v_sweptWhich, .ref h_this_rows, .ref h_this_groups, .ref h_this_covers, .ref h_this_byWool, .ref h_this_wins, .ref h_this_kept, .ref h_this_isKept, .int v_keptAt, .int v_isWriting])), (h_this_covers, .inl (cZ, 1024, .inl v_covers)), (h_this_groups, .inl (cI, 1024, .inl v_groups)), (h_this_stitches, .inl (cI, 10, .inl v_stitches))] H := hP
          exact W.iret (v := r_27) hx hb hr (fun t ht hW => ⟨⟨r_27, (v_covers, v_groups), rfl, vc, QB_mk (hP.sub [0, 1, 2, 3] rfl) (hD.sub [0, 1, 2, 3] rfl rfl) ht⟩, hS.F ht⟩) hS.2.2 dX9_most_87
      · replace vc := vc.2 c_
        refine lv_iload_n hx hb dX9_most_37 rfl (lv_at hl 3 rfl) ?_
        refine lv_aload_n hx hb dX9_most_38 rfl (lv_at hl 0 rfl) ?_
        refine va_get (D := D) (ci := 9) (v := .int v_present) (C := RX9) (T := TX9) (N := 30) hx hb hts mcX9_most_X9 hown hK.1 hP 0 rfl rfl 0 (by decide) (hts _ mwX9_most_2) (fun _ h9 => h9) rfl dX9_most_39 ?_
        refine lv_iload hx hb dX9_most_42 (lv_at hl 4 rfl) ?_
        refine kj0_i (rest := [.int i_4]) (kS ⟨hx, hb, hml, hown, hts⟩ (kX9_has _ v_present i_5 vc.1) (va_cwS 2 hts gX9_most_X9_has rfl rfl rfl (by decide +kernel) ⟨(Nat.le_of_ble_eq_true rfl), (Nat.le_of_ble_eq_true rfl)⟩) hK rfl rfl hl.1 (Nat.le_of_ble_eq_true rfl) dX9_most_44 ⟨(Nat.le_of_ble_eq_true rfl), (Nat.le_of_ble_eq_true rfl)⟩) hP hS hA (fun r_28 H locs hq_ hP hS => ?_)
        replace vc := vc.2 r_28 hq_
        have hP : va_P D vwCl [(h_this, .inr (9, [.int v_present, .ref h_this_wool, .ref h_this_stitches, .ref h_this_place, .int v_chest, .int v_years, .ref h_this_sightSundays, .ref h_this_sightWool, .int v_sights, .ref h_this_pad, .int v_padMany, .ref h_this_act, .ref h_this_which, .ref h_this_much, .int v_acts, .int v_sweptMany, .ref h_this_had, .int v_badAct, .int v_badWhy, .int v_sweptAct, .int v_sweptWhich, .ref h_this_rows, .ref h_this_groups, .ref h_this_covers, .ref h_this_byWool, .ref h_this_wins, .ref h_this_kept, .ref h_this_isKept, .int v_keptAt, .int v_isWriting])), (h_this_covers, .inl (cZ, 1024, .inl v_covers)), (h_this_groups, .inl (cI, 1024, .inl v_groups)), (h_this_stitches, .inl (cI, 10, .inl v_stitches))] H := hP
        refine lv_if_eq (tgt := 69) hx hb dX9_most_47 (by decide) (fun c_ => ?_) (fun c_ => ?_)
        · replace vc := vc.1 c_
          refine lv_iconst (v := (0 : Int32)) hx hb dX9_most_69 (by decide) ?_
          refine lv_ior hx hb dX9_most_70 ?_
          refine lv_topi (fun x_29 ex_29 => ?_)
          replace vc := vc x_29 ex_29
          refine lv_istore_n (lv' := [(3, .int x_29), (0, .ref h_this), (1, .int p0), (2, .int p1), (4, .int i_5)]) hx hb dX9_most_71 rfl hl (by decide) rfl (fun ls hl => ?_)
          obtain ⟨x_30, ex_30⟩ : ∃ y_ : Int32, y_ = (i_5 + (1 : Int32)) := ⟨_, rfl⟩
          replace vc := vc x_30 ex_30
          refine lv_iinc (v := x_30) (lv' := [(4, .int x_30), (3, .int x_29), (0, .ref h_this), (1, .int p0), (2, .int p1)]) hx hb dX9_most_72 hl (k := 4) rfl (by rw [ex_30]; rfl) (by decide) rfl (fun ls hl => ?_)
          refine lv_goto (tgt := 30) hx hb dX9_most_75 (by decide) ?_
          obtain ⟨n1_, hlt_, hi_⟩ := vc
          exact ih_3 n1_ (x_29, x_30) hlt_ hi_ _ _ hP hD hS ls (lv_sub hl [2, 3, 4, 1, 0] rfl)
        · replace vc := vc.2 c_
          refine lv_aload_n hx hb dX9_most_50 rfl (lv_at hl 0 rfl) ?_
          refine va_get (D := D) (ci := 9) (v := .ref h_this_stitches) (C := RX9) (T := TX9) (N := 30) hx hb hts mcX9_most_X9 hown hK.1 hP 0 rfl rfl 2 (by decide) (hts _ mwX9_most_3) (fun _ h9 => h9) rfl dX9_most_51 ?_
          refine lv_iload hx hb dX9_most_54 (lv_at hl 4 rfl) ?_
          have hi_31 := vc.1
          replace vc := vc.2
          refine va_iald hx hb hK.1 hP 3 0 rfl rfl hi_31 dX9_most_56 ?_
          refine lv_iload_n hx hb dX9_most_57 rfl (lv_at hl 1 rfl) ?_
          refine lv_iand hx hb dX9_most_58 ?_
          refine lv_if_eq (tgt := 69) hx hb dX9_most_59 (by decide) (fun c_ => ?_) (fun c_ => ?_)
          · replace vc := vc.1 c_
            refine lv_iconst (v := (0 : Int32)) hx hb dX9_most_69 (by decide) ?_
            refine lv_ior hx hb dX9_most_70 ?_
            refine lv_topi (fun x_32 ex_32 => ?_)
            replace vc := vc x_32 ex_32
            refine lv_istore_n (lv' := [(3, .int x_32), (0, .ref h_this), (1, .int p0), (2, .int p1), (4, .int i_5)]) hx hb dX9_most_71 rfl hl (by decide) rfl (fun ls hl => ?_)
            obtain ⟨x_33, ex_33⟩ : ∃ y_ : Int32, y_ = (i_5 + (1 : Int32)) := ⟨_, rfl⟩
            replace vc := vc x_33 ex_33
            refine lv_iinc (v := x_33) (lv' := [(4, .int x_33), (3, .int x_32), (0, .ref h_this), (1, .int p0), (2, .int p1)]) hx hb dX9_most_72 hl (k := 4) rfl (by rw [ex_33]; rfl) (by decide) rfl (fun ls hl => ?_)
            refine lv_goto (tgt := 30) hx hb dX9_most_75 (by decide) ?_
            obtain ⟨n1_, hlt_, hi_⟩ := vc
            exact ih_3 n1_ (x_32, x_33) hlt_ hi_ _ _ hP hD hS ls (lv_sub hl [2, 3, 4, 1, 0] rfl)
          · replace vc := vc.2 c_
            refine lv_iconst (v := (1 : Int32)) hx hb dX9_most_62 (by decide) ?_
            refine lv_iload hx hb dX9_most_63 (lv_at hl 4 rfl) ?_
            refine lv_ishl hx hb dX9_most_65 ?_
            refine lv_goto (tgt := 70) hx hb dX9_most_66 (by decide) ?_
            refine lv_ior hx hb dX9_most_70 ?_
            refine lv_topi (fun x_34 ex_34 => ?_)
            replace vc := vc x_34 ex_34
            refine lv_istore_n (lv' := [(3, .int x_34), (0, .ref h_this), (1, .int p0), (2, .int p1), (4, .int i_5)]) hx hb dX9_most_71 rfl hl (by decide) rfl (fun ls hl => ?_)
            obtain ⟨x_35, ex_35⟩ : ∃ y_ : Int32, y_ = (i_5 + (1 : Int32)) := ⟨_, rfl⟩
            replace vc := vc x_35 ex_35
            refine lv_iinc (v := x_35) (lv' := [(4, .int x_35), (3, .int x_34), (0, .ref h_this), (1, .int p0), (2, .int p1)]) hx hb dX9_most_72 hl (k := 4) rfl (by rw [ex_35]; rfl) (by decide) rfl (fun ls hl => ?_)
            refine lv_goto (tgt := 30) hx hb dX9_most_75 (by decide) ?_
            obtain ⟨n1_, hlt_, hi_⟩ := vc
            exact ih_3 n1_ (x_34, x_35) hlt_ hi_ _ _ hP hD hS ls (lv_sub hl [2, 3, 4, 1, 0] rfl)
    · replace vc := vc.2 c_
      refine lv_bipush (v := (-2 : Int32)) hx hb dX9_most_22 (by decide) ?_
      exact W.iret (v := (-2 : Int32)) hx hb hr (fun t ht hW => ⟨⟨(-2 : Int32), (v_covers, v_groups), rfl, vc, QB_mk (hP.sub [0, 1, 2, 3] rfl) (hD.sub [0, 1, 2, 3] rfl rfl) ht⟩, hS.F ht⟩) hS.2.2 dX9_most_24

theorem mwX9_weight_1 : Cond.fieldLink RX9 13 "HassockSeeModel" "stitches" "[I" ∈ wsX9_weight := List.mem_of_getElem? (i := 1) rfl
theorem mcX9_weight_X9 : ∀ w ∈ u_ws RX9 TX9 30, w ∈ wsX9_weight := fun _ h => (List.mem_cons_of_mem _ (List.mem_append_right _ h))
def KX9_weight (l : Launch) (D : va_G) (cI cZ : ClassId) (P : Int32 → (Nat → Int32) → Prop) (Q : Int32 → (Nat → Int32) → Int32 → Prop) : Prop := ∀ (sz : Nat) (h_this h_this_wool h_this_stitches h_this_place h_this_sightSundays h_this_sightWool h_this_pad h_this_act h_this_which h_this_much h_this_had h_this_rows h_this_groups h_this_covers h_this_byWool h_this_wins h_this_kept h_this_isKept : Nat) (p0 : Int32) (v_present : Int32) (v_chest : Int32) (v_years : Int32) (v_sights : Int32) (v_padMany : Int32) (v_acts : Int32) (v_sweptMany : Int32) (v_badAct : Int32) (v_badWhy : Int32) (v_sweptAct : Int32) (v_sweptWhich : Int32) (v_keptAt : Int32) (v_isWriting : Int32) (v_stitches : (Nat → Int32)), P p0 v_stitches → MI l yX9_weight wsX9_weight ({ frames := 1, cells := 0, slots := 0, locals := 22 }) [.ref h_this, .int p0] D cI cZ sz [(h_this, .inr (9, [.int v_present, .ref h_this_wool, .ref h_this_stitches, .ref h_this_place, .int v_chest, .int v_years, .ref h_this_sightSundays, .ref h_this_sightWool, .int v_sights, .ref h_this_pad, .int v_padMany, .ref h_this_act, .ref h_this_which, .ref h_this_much, .int v_acts, .int v_sweptMany, .ref h_this_had, .int v_badAct, .int v_badWhy, .int v_sweptAct, .int v_sweptWhich, .ref h_this_rows, .ref h_this_groups, .ref h_this_covers, .ref h_this_byWool, .ref h_this_wins, .ref h_this_kept, .ref h_this_isKept, .int v_keptAt, .int v_isWriting])), (h_this_stitches, .inl (cI, 10, .inl v_stitches))] (fun r (u : Unit) => Q p0 v_stitches r ) (fun u => [(h_this, .inr (9, [.int v_present, .ref h_this_wool, .ref h_this_stitches, .ref h_this_place, .int v_chest, .int v_years, .ref h_this_sightSundays, .ref h_this_sightWool, .int v_sights, .ref h_this_pad, .int v_padMany, .ref h_this_act, .ref h_this_which, .ref h_this_much, .int v_acts, .int v_sweptMany, .ref h_this_had, .int v_badAct, .int v_badWhy, .int v_sweptAct, .int v_sweptWhich, .ref h_this_rows, .ref h_this_groups, .ref h_this_covers, .ref h_this_byWool, .ref h_this_wins, .ref h_this_kept, .ref h_this_isKept, .int v_keptAt, .int v_isWriting])), (h_this_stitches, .inl (cI, 10, .inl v_stitches))]) 0 0
set_option maxHeartbeats 4000000 in
set_option maxRecDepth 100000 in
theorem walkX9_weight {l : Launch} {D : va_G} {cI cZ : ClassId} {PX9_weight : Int32 → (Nat → Int32) → Prop} {QX9_weight : Int32 → (Nat → Int32) → Int32 → Prop} {PX9_ones : Int32 → Prop} {QX9_ones : Int32 → Int32 → Prop} (kX9_ones : KX9_ones l D cI cZ PX9_ones QX9_ones) (hvc : ∀ (p0 : Int32) (v_stitches : (Nat → Int32)), PX9_weight p0 v_stitches → (vp_in p0 10 ∧ (PX9_ones (v_stitches (p0).toNatClampNeg) ∧ (∀ r_2 : Int32, QX9_ones (v_stitches (p0).toNatClampNeg) r_2 → (QX9_weight p0 v_stitches ((1 : Int32) + r_2) ))))) : KX9_weight l D cI cZ PX9_weight QX9_weight := by
  intro sz h_this h_this_wool h_this_stitches h_this_place h_this_sightSundays h_this_sightWool h_this_pad h_this_act h_this_which h_this_much h_this_had h_this_rows h_this_groups h_this_covers h_this_byWool h_this_wins h_this_kept h_this_isKept p0 v_present v_chest v_years v_sights v_padMany v_acts v_sweptMany v_badAct v_badWhy v_sweptAct v_sweptWhich v_keptAt v_isWriting v_stitches hpre
  have vc := hvc p0 v_stitches hpre
  clear hvc
  refine Met.ofW (cc := cX9_weight) (maxL := 2) (ret := (some .int)) (by decide) rfl ?_
  intro p e s m args below meth c s₁ B hml hv
  obtain ⟨rfl, hsz, hP, hK, hD0⟩ := hv
  have hx := B.exec
  have hb := B.bytes
  have hr := B.returns
  have hts := atoms_spec (ws := wsX9_weight) B.pre
  have hown : s.vm.findClass RX9 = some m.cls := findClass_of_methodNamed B.named
  have hlocks := B.notSynchronized
  subst hsz
  have hD := hD0.self (sz := s.heap.size)
  generalize hAe : va_A [(h_this, .inr (9, [.int v_present, .ref h_this_wool, .ref h_this_stitches, .ref h_this_place, .int v_chest, .int v_years, .ref h_this_sightSundays, .ref h_this_sightWool, .int v_sights, .ref h_this_pad, .int v_padMany, .ref h_this_act, .ref h_this_which, .ref h_this_much, .int v_acts, .int v_sweptMany, .ref h_this_had, .int v_badAct, .int v_badWhy, .int v_sweptAct, .int v_sweptWhich, .ref h_this_rows, .ref h_this_groups, .ref h_this_covers, .ref h_this_byWool, .ref h_this_wins, .ref h_this_kept, .ref h_this_isKept, .int v_keptAt, .int v_isWriting])), (h_this_stitches, .inl (cI, 10, .inl v_stitches))] s.heap.size = A at hD ⊢
  have hA : ∀ q : Nat, s.heap.size ≤ q → A q := fun q h => by rw [← hAe]; exact Or.inr h
  have hS : va_S A s.heap s.heap [] := va_S.rf
  have hP : va_P D vwCl [(h_this, .inr (9, [.int v_present, .ref h_this_wool, .ref h_this_stitches, .ref h_this_place, .int v_chest, .int v_years, .ref h_this_sightSundays, .ref h_this_sightWool, .int v_sights, .ref h_this_pad, .int v_padMany, .ref h_this_act, .ref h_this_which, .ref h_this_much, .int v_acts, .int v_sweptMany, .ref h_this_had, .int v_badAct, .int v_badWhy, .int v_sweptAct, .int v_sweptWhich, .ref h_this_rows, .ref h_this_groups, .ref h_this_covers, .ref h_this_byWool, .ref h_this_wins, .ref h_this_kept, .ref h_this_isKept, .int v_keptAt, .int v_isWriting])), (h_this_stitches, .inl (cI, 10, .inl v_stitches))] s.heap := hP
  have hl := lv_entry ([.ref h_this, .int p0]) (n := 2) (Nat.le_of_ble_eq_true rfl)
  rw [lg_entry_eq]
  generalize (lg_sl ([.ref h_this, .int p0]) ++ List.replicate (2 - (lg_sl ([.ref h_this, .int p0])).length) Slot.unset).toArray = ls at hl ⊢
  have hl : lv_has ls 2 [(0, .ref h_this), (1, .int p0)] := hl
  refine lv_iconst (v := (1 : Int32)) hx hb dX9_weight_0 (by decide) ?_
  refine lv_aload_n hx hb dX9_weight_1 rfl (lv_at hl 0 rfl) ?_
  refine va_get (D := D) (ci := 9) (v := .ref h_this_stitches) (C := RX9) (T := TX9) (N := 30) hx hb hts mcX9_weight_X9 hown hK.1 hP 0 rfl rfl 2 (by decide) (hts _ mwX9_weight_1) (fun _ h9 => h9) rfl dX9_weight_2 ?_
  refine lv_iload_n hx hb dX9_weight_5 rfl (lv_at hl 1 rfl) ?_
  have hi_1 := vc.1
  replace vc := vc.2
  refine va_iald hx hb hK.1 hP 1 0 rfl rfl hi_1 dX9_weight_6 ?_
  refine kj0_i (rest := [.int (1 : Int32)]) (kS ⟨hx, hb, hml, hown, hts⟩ (kX9_ones _ (v_stitches (p0).toNatClampNeg) vc.1) (va_cwS 1 hts gX9_weight_X9_ones rfl rfl rfl (by decide +kernel) ⟨(Nat.le_of_ble_eq_true rfl), (Nat.le_of_ble_eq_true rfl)⟩) hK rfl rfl hl.1 (Nat.le_of_ble_eq_true rfl) dX9_weight_7 ⟨(Nat.le_of_ble_eq_true rfl), (Nat.le_of_ble_eq_true rfl)⟩) hP hS hA (fun r_2 H locs hq_ hP hS => ?_)
  replace vc := vc.2 r_2 hq_
  have hP : va_P D vwCl [(h_this, .inr (9, [.int v_present, .ref h_this_wool, .ref h_this_stitches, .ref h_this_place, .int v_chest, .int v_years, .ref h_this_sightSundays, .ref h_this_sightWool, .int v_sights, .ref h_this_pad, .int v_padMany, .ref h_this_act, .ref h_this_which, .ref h_this_much, .int v_acts, .int v_sweptMany, .ref h_this_had, .int v_badAct, .int v_badWhy, .int v_sweptAct, .int v_sweptWhich, .ref h_this_rows, .ref h_this_groups, .ref h_this_covers, .ref h_this_byWool, .ref h_this_wins, .ref h_this_kept, .ref h_this_isKept, .int v_keptAt, .int v_isWriting])), (h_this_stitches, .inl (cI, 10, .inl v_stitches))] H := hP
  refine lv_iadd hx hb dX9_weight_10 ?_
  exact W.iret (v := ((1 : Int32) + r_2)) hx hb hr (fun t ht hW => ⟨⟨((1 : Int32) + r_2), (), rfl, vc, QB_mk (hP.sub [0, 1] rfl) (hD.sub [0, 1] rfl rfl) ht⟩, hS.F ht⟩) hS.2.2 dX9_weight_11

theorem mwX9_bears_1 : Cond.fieldLink RX9 7 "HassockSeeModel" "wool" "[I" ∈ wsX9_bears := List.mem_of_getElem? (i := 1) rfl
theorem mcX9_bears_X9 : ∀ w ∈ u_ws RX9 TX9 30, w ∈ wsX9_bears := fun _ h => (List.mem_cons_of_mem _ (List.mem_append_right _ h))
def KX9_bears (l : Launch) (D : va_G) (cI cZ : ClassId) (P : Int32 → (Nat → Int32) → Prop) (Q : Int32 → (Nat → Int32) → Int32 → Prop) : Prop := ∀ (sz : Nat) (h_this h_this_wool h_this_stitches h_this_place h_this_sightSundays h_this_sightWool h_this_pad h_this_act h_this_which h_this_much h_this_had h_this_rows h_this_groups h_this_covers h_this_byWool h_this_wins h_this_kept h_this_isKept : Nat) (p0 : Int32) (v_present : Int32) (v_chest : Int32) (v_years : Int32) (v_sights : Int32) (v_padMany : Int32) (v_acts : Int32) (v_sweptMany : Int32) (v_badAct : Int32) (v_badWhy : Int32) (v_sweptAct : Int32) (v_sweptWhich : Int32) (v_keptAt : Int32) (v_isWriting : Int32) (v_wool : (Nat → Int32)), P p0 v_wool → MI l yX9_bears wsX9_bears ({ frames := 0, cells := 0, slots := 0, locals := 0 }) [.ref h_this, .int p0] D cI cZ sz [(h_this, .inr (9, [.int v_present, .ref h_this_wool, .ref h_this_stitches, .ref h_this_place, .int v_chest, .int v_years, .ref h_this_sightSundays, .ref h_this_sightWool, .int v_sights, .ref h_this_pad, .int v_padMany, .ref h_this_act, .ref h_this_which, .ref h_this_much, .int v_acts, .int v_sweptMany, .ref h_this_had, .int v_badAct, .int v_badWhy, .int v_sweptAct, .int v_sweptWhich, .ref h_this_rows, .ref h_this_groups, .ref h_this_covers, .ref h_this_byWool, .ref h_this_wins, .ref h_this_kept, .ref h_this_isKept, .int v_keptAt, .int v_isWriting])), (h_this_wool, .inl (cI, 10, .inl v_wool))] (fun r (u : Unit) => Q p0 v_wool r ) (fun u => [(h_this, .inr (9, [.int v_present, .ref h_this_wool, .ref h_this_stitches, .ref h_this_place, .int v_chest, .int v_years, .ref h_this_sightSundays, .ref h_this_sightWool, .int v_sights, .ref h_this_pad, .int v_padMany, .ref h_this_act, .ref h_this_which, .ref h_this_much, .int v_acts, .int v_sweptMany, .ref h_this_had, .int v_badAct, .int v_badWhy, .int v_sweptAct, .int v_sweptWhich, .ref h_this_rows, .ref h_this_groups, .ref h_this_covers, .ref h_this_byWool, .ref h_this_wins, .ref h_this_kept, .ref h_this_isKept, .int v_keptAt, .int v_isWriting])), (h_this_wool, .inl (cI, 10, .inl v_wool))]) 0 0
set_option maxHeartbeats 4000000 in
set_option maxRecDepth 100000 in
theorem walkX9_bears {l : Launch} {D : va_G} {cI cZ : ClassId} {PX9_bears : Int32 → (Nat → Int32) → Prop} {QX9_bears : Int32 → (Nat → Int32) → Int32 → Prop}  (hvc : ∀ (p0 : Int32) (v_wool : (Nat → Int32)), PX9_bears p0 v_wool → (vp_in p0 10 ∧ (QX9_bears p0 v_wool ((v_wool (p0).toNatClampNeg) / (5 : Int32)) ))) : KX9_bears l D cI cZ PX9_bears QX9_bears := by
  intro sz h_this h_this_wool h_this_stitches h_this_place h_this_sightSundays h_this_sightWool h_this_pad h_this_act h_this_which h_this_much h_this_had h_this_rows h_this_groups h_this_covers h_this_byWool h_this_wins h_this_kept h_this_isKept p0 v_present v_chest v_years v_sights v_padMany v_acts v_sweptMany v_badAct v_badWhy v_sweptAct v_sweptWhich v_keptAt v_isWriting v_wool hpre
  have vc := hvc p0 v_wool hpre
  clear hvc
  refine Met.ofW (cc := cX9_bears) (maxL := 2) (ret := (some .int)) (by decide) rfl ?_
  intro p e s m args below meth c s₁ B hml hv
  obtain ⟨rfl, hsz, hP, hK, hD0⟩ := hv
  have hx := B.exec
  have hb := B.bytes
  have hr := B.returns
  have hts := atoms_spec (ws := wsX9_bears) B.pre
  have hown : s.vm.findClass RX9 = some m.cls := findClass_of_methodNamed B.named
  have hlocks := B.notSynchronized
  subst hsz
  have hD := hD0.self (sz := s.heap.size)
  generalize hAe : va_A [(h_this, .inr (9, [.int v_present, .ref h_this_wool, .ref h_this_stitches, .ref h_this_place, .int v_chest, .int v_years, .ref h_this_sightSundays, .ref h_this_sightWool, .int v_sights, .ref h_this_pad, .int v_padMany, .ref h_this_act, .ref h_this_which, .ref h_this_much, .int v_acts, .int v_sweptMany, .ref h_this_had, .int v_badAct, .int v_badWhy, .int v_sweptAct, .int v_sweptWhich, .ref h_this_rows, .ref h_this_groups, .ref h_this_covers, .ref h_this_byWool, .ref h_this_wins, .ref h_this_kept, .ref h_this_isKept, .int v_keptAt, .int v_isWriting])), (h_this_wool, .inl (cI, 10, .inl v_wool))] s.heap.size = A at hD ⊢
  have hA : ∀ q : Nat, s.heap.size ≤ q → A q := fun q h => by rw [← hAe]; exact Or.inr h
  have hS : va_S A s.heap s.heap [] := va_S.rf
  have hP : va_P D vwCl [(h_this, .inr (9, [.int v_present, .ref h_this_wool, .ref h_this_stitches, .ref h_this_place, .int v_chest, .int v_years, .ref h_this_sightSundays, .ref h_this_sightWool, .int v_sights, .ref h_this_pad, .int v_padMany, .ref h_this_act, .ref h_this_which, .ref h_this_much, .int v_acts, .int v_sweptMany, .ref h_this_had, .int v_badAct, .int v_badWhy, .int v_sweptAct, .int v_sweptWhich, .ref h_this_rows, .ref h_this_groups, .ref h_this_covers, .ref h_this_byWool, .ref h_this_wins, .ref h_this_kept, .ref h_this_isKept, .int v_keptAt, .int v_isWriting])), (h_this_wool, .inl (cI, 10, .inl v_wool))] s.heap := hP
  have hl := lv_entry ([.ref h_this, .int p0]) (n := 2) (Nat.le_of_ble_eq_true rfl)
  rw [lg_entry_eq]
  generalize (lg_sl ([.ref h_this, .int p0]) ++ List.replicate (2 - (lg_sl ([.ref h_this, .int p0])).length) Slot.unset).toArray = ls at hl ⊢
  have hl : lv_has ls 2 [(0, .ref h_this), (1, .int p0)] := hl
  refine lv_aload_n hx hb dX9_bears_0 rfl (lv_at hl 0 rfl) ?_
  refine va_get (D := D) (ci := 9) (v := .ref h_this_wool) (C := RX9) (T := TX9) (N := 30) hx hb hts mcX9_bears_X9 hown hK.1 hP 0 rfl rfl 1 (by decide) (hts _ mwX9_bears_1) (fun _ h9 => h9) rfl dX9_bears_1 ?_
  refine lv_iload_n hx hb dX9_bears_4 rfl (lv_at hl 1 rfl) ?_
  have hi_1 := vc.1
  replace vc := vc.2
  refine va_iald hx hb hK.1 hP 1 0 rfl rfl hi_1 dX9_bears_5 ?_
  refine lv_iconst (v := (5 : Int32)) hx hb dX9_bears_6 (by decide) ?_
  refine lv_idiv hx hb dX9_bears_7 (by decide) ?_
  exact W.iret (v := ((v_wool (p0).toNatClampNeg) / (5 : Int32))) hx hb hr (fun t ht hW => ⟨⟨((v_wool (p0).toNatClampNeg) / (5 : Int32)), (), rfl, vc, QB_mk (hP.sub [0, 1] rfl) (hD.sub [0, 1] rfl rfl) ht⟩, hS.F ht⟩) hS.2.2 dX9_bears_8

def KX9_nextOf (l : Launch) (D : va_G) (cI cZ : ClassId) (P : Int32 → (Nat → Int32) → (Nat → Int32) → Prop) (Q : Int32 → (Nat → Int32) → (Nat → Int32) → Int32 → Prop) : Prop := ∀ (sz : Nat) (h_this h_this_wool h_this_stitches h_this_place h_this_sightSundays h_this_sightWool h_this_pad h_this_act h_this_which h_this_much h_this_had h_this_rows h_this_groups h_this_covers h_this_byWool h_this_wins h_this_kept h_this_isKept : Nat) (p0 : Int32) (v_present : Int32) (v_chest : Int32) (v_years : Int32) (v_sights : Int32) (v_padMany : Int32) (v_acts : Int32) (v_sweptMany : Int32) (v_badAct : Int32) (v_badWhy : Int32) (v_sweptAct : Int32) (v_sweptWhich : Int32) (v_keptAt : Int32) (v_isWriting : Int32) (v_stitches : (Nat → Int32)) (v_wool : (Nat → Int32)), P p0 v_stitches v_wool → MI l yX9_nextOf wsX9_nextOf ({ frames := 2, cells := 0, slots := 0, locals := 43 }) [.ref h_this, .int p0] D cI cZ sz [(h_this, .inr (9, [.int v_present, .ref h_this_wool, .ref h_this_stitches, .ref h_this_place, .int v_chest, .int v_years, .ref h_this_sightSundays, .ref h_this_sightWool, .int v_sights, .ref h_this_pad, .int v_padMany, .ref h_this_act, .ref h_this_which, .ref h_this_much, .int v_acts, .int v_sweptMany, .ref h_this_had, .int v_badAct, .int v_badWhy, .int v_sweptAct, .int v_sweptWhich, .ref h_this_rows, .ref h_this_groups, .ref h_this_covers, .ref h_this_byWool, .ref h_this_wins, .ref h_this_kept, .ref h_this_isKept, .int v_keptAt, .int v_isWriting])), (h_this_stitches, .inl (cI, 10, .inl v_stitches)), (h_this_wool, .inl (cI, 10, .inl v_wool))] (fun r (u : Unit) => Q p0 v_stitches v_wool r ) (fun u => [(h_this, .inr (9, [.int v_present, .ref h_this_wool, .ref h_this_stitches, .ref h_this_place, .int v_chest, .int v_years, .ref h_this_sightSundays, .ref h_this_sightWool, .int v_sights, .ref h_this_pad, .int v_padMany, .ref h_this_act, .ref h_this_which, .ref h_this_much, .int v_acts, .int v_sweptMany, .ref h_this_had, .int v_badAct, .int v_badWhy, .int v_sweptAct, .int v_sweptWhich, .ref h_this_rows, .ref h_this_groups, .ref h_this_covers, .ref h_this_byWool, .ref h_this_wins, .ref h_this_kept, .ref h_this_isKept, .int v_keptAt, .int v_isWriting])), (h_this_stitches, .inl (cI, 10, .inl v_stitches)), (h_this_wool, .inl (cI, 10, .inl v_wool))]) 0 0
set_option maxHeartbeats 4000000 in
set_option maxRecDepth 100000 in
theorem walkX9_nextOf {l : Launch} {D : va_G} {cI cZ : ClassId} {PX9_nextOf : Int32 → (Nat → Int32) → (Nat → Int32) → Prop} {QX9_nextOf : Int32 → (Nat → Int32) → (Nat → Int32) → Int32 → Prop} {PX9_has : Int32 → Int32 → Prop} {QX9_has : Int32 → Int32 → Int32 → Prop} {PX9_weight : Int32 → (Nat → Int32) → Prop} {QX9_weight : Int32 → (Nat → Int32) → Int32 → Prop} {PX9_bears : Int32 → (Nat → Int32) → Prop} {QX9_bears : Int32 → (Nat → Int32) → Int32 → Prop} (kX9_has : KX9_has l D cI cZ PX9_has QX9_has) (kX9_weight : KX9_weight l D cI cZ PX9_weight QX9_weight) (kX9_bears : KX9_bears l D cI cZ PX9_bears QX9_bears) (IX9_nextOf_5 : Int32 → (Nat → Int32) → (Nat → Int32) → Nat → Int32 → Int32 → Int32 → Prop) (hvc : ∀ (p0 : Int32) (v_stitches : (Nat → Int32)) (v_wool : (Nat → Int32)), PX9_nextOf p0 v_stitches v_wool → ((∃ n0 : Nat, IX9_nextOf_5 p0 v_stitches v_wool n0 p0 (-6 : Int32) (0 : Int32)) ∧ (∀ (n_1 : Nat) (i_2 : Int32) (i_3 : Int32), (IX9_nextOf_5 p0 v_stitches v_wool n_1 p0 i_3 i_2 → (((10 : Int32) ≤ i_2 → (QX9_nextOf p0 v_stitches v_wool i_3 )) ∧ (¬ (10 : Int32) ≤ i_2 → (PX9_has p0 i_2 ∧ (∀ r_4 : Int32, QX9_has p0 i_2 r_4 → ((r_4 = 0 → (∀ x_5 : Int32, x_5 = (i_2 + (1 : Int32)) → (∃ n1 : Nat, n1 < n_1 ∧ IX9_nextOf_5 p0 v_stitches v_wool n1 p0 i_3 x_5))) ∧ (¬ r_4 = 0 → ((i_3 < 0 → (∀ x_6 : Int32, x_6 = (i_2 + (1 : Int32)) → (∃ n1 : Nat, n1 < n_1 ∧ IX9_nextOf_5 p0 v_stitches v_wool n1 p0 i_2 x_6))) ∧ (¬ i_3 < 0 → (PX9_weight i_2 v_stitches ∧ (∀ (r_7 : Int32), QX9_weight i_2 v_stitches r_7  → (PX9_bears i_2 v_wool ∧ (∀ (r_8 : Int32), QX9_bears i_2 v_wool r_8  → (PX9_weight i_3 v_stitches ∧ (∀ (r_9 : Int32), QX9_weight i_3 v_stitches r_9  → (PX9_bears i_3 v_wool ∧ (∀ (r_10 : Int32), QX9_bears i_3 v_wool r_10  → (((r_9 + r_10) ≤ (r_7 + r_8) → (∀ x_11 : Int32, x_11 = (i_2 + (1 : Int32)) → (∃ n1 : Nat, n1 < n_1 ∧ IX9_nextOf_5 p0 v_stitches v_wool n1 p0 i_3 x_11))) ∧ (¬ (r_9 + r_10) ≤ (r_7 + r_8) → (∀ x_12 : Int32, x_12 = (i_2 + (1 : Int32)) → (∃ n1 : Nat, n1 < n_1 ∧ IX9_nextOf_5 p0 v_stitches v_wool n1 p0 i_2 x_12)))))))))))))))))))))))) : KX9_nextOf l D cI cZ PX9_nextOf QX9_nextOf := by
  intro sz h_this h_this_wool h_this_stitches h_this_place h_this_sightSundays h_this_sightWool h_this_pad h_this_act h_this_which h_this_much h_this_had h_this_rows h_this_groups h_this_covers h_this_byWool h_this_wins h_this_kept h_this_isKept p0 v_present v_chest v_years v_sights v_padMany v_acts v_sweptMany v_badAct v_badWhy v_sweptAct v_sweptWhich v_keptAt v_isWriting v_stitches v_wool hpre
  have vc := hvc p0 v_stitches v_wool hpre
  clear hvc
  refine Met.ofW (cc := cX9_nextOf) (maxL := 5) (ret := (some .int)) (by decide) rfl ?_
  intro p e s m args below meth c s₁ B hml hv
  obtain ⟨rfl, hsz, hP, hK, hD0⟩ := hv
  have hx := B.exec
  have hb := B.bytes
  have hr := B.returns
  have hts := atoms_spec (ws := wsX9_nextOf) B.pre
  have hown : s.vm.findClass RX9 = some m.cls := findClass_of_methodNamed B.named
  have hlocks := B.notSynchronized
  subst hsz
  have hD := hD0.self (sz := s.heap.size)
  generalize hAe : va_A [(h_this, .inr (9, [.int v_present, .ref h_this_wool, .ref h_this_stitches, .ref h_this_place, .int v_chest, .int v_years, .ref h_this_sightSundays, .ref h_this_sightWool, .int v_sights, .ref h_this_pad, .int v_padMany, .ref h_this_act, .ref h_this_which, .ref h_this_much, .int v_acts, .int v_sweptMany, .ref h_this_had, .int v_badAct, .int v_badWhy, .int v_sweptAct, .int v_sweptWhich, .ref h_this_rows, .ref h_this_groups, .ref h_this_covers, .ref h_this_byWool, .ref h_this_wins, .ref h_this_kept, .ref h_this_isKept, .int v_keptAt, .int v_isWriting])), (h_this_stitches, .inl (cI, 10, .inl v_stitches)), (h_this_wool, .inl (cI, 10, .inl v_wool))] s.heap.size = A at hD ⊢
  have hA : ∀ q : Nat, s.heap.size ≤ q → A q := fun q h => by rw [← hAe]; exact Or.inr h
  have hS : va_S A s.heap s.heap [] := va_S.rf
  have hP : va_P D vwCl [(h_this, .inr (9, [.int v_present, .ref h_this_wool, .ref h_this_stitches, .ref h_this_place, .int v_chest, .int v_years, .ref h_this_sightSundays, .ref h_this_sightWool, .int v_sights, .ref h_this_pad, .int v_padMany, .ref h_this_act, .ref h_this_which, .ref h_this_much, .int v_acts, .int v_sweptMany, .ref h_this_had, .int v_badAct, .int v_badWhy, .int v_sweptAct, .int v_sweptWhich, .ref h_this_rows, .ref h_this_groups, .ref h_this_covers, .ref h_this_byWool, .ref h_this_wins, .ref h_this_kept, .ref h_this_isKept, .int v_keptAt, .int v_isWriting])), (h_this_stitches, .inl (cI, 10, .inl v_stitches)), (h_this_wool, .inl (cI, 10, .inl v_wool))] s.heap := hP
  have hl := lv_entry ([.ref h_this, .int p0]) (n := 5) (Nat.le_of_ble_eq_true rfl)
  rw [lg_entry_eq]
  generalize (lg_sl ([.ref h_this, .int p0]) ++ List.replicate (5 - (lg_sl ([.ref h_this, .int p0])).length) Slot.unset).toArray = ls at hl ⊢
  have hl : lv_has ls 5 [(0, .ref h_this), (1, .int p0)] := hl
  refine lv_bipush (v := (-6 : Int32)) hx hb dX9_nextOf_0 (by decide) ?_
  refine lv_istore_n (lv' := [(2, .int (-6 : Int32)), (0, .ref h_this), (1, .int p0)]) hx hb dX9_nextOf_2 rfl hl (by decide) rfl (fun ls hl => ?_)
  refine lv_iconst (v := (0 : Int32)) hx hb dX9_nextOf_3 (by decide) ?_
  refine lv_istore_n (lv' := [(3, .int (0 : Int32)), (2, .int (-6 : Int32)), (0, .ref h_this), (1, .int p0)]) hx hb dX9_nextOf_4 rfl hl (by decide) rfl (fun ls hl => ?_)
  obtain ⟨⟨n0_1, hi0_1⟩, vc⟩ := vc
  refine kloop (V := Int32 × Int32) (I := fun n v => IX9_nextOf_5 p0 v_stitches v_wool n p0 (v.2) (v.1)) (wv := fun v => [(h_this, .inr (9, [.int v_present, .ref h_this_wool, .ref h_this_stitches, .ref h_this_place, .int v_chest, .int v_years, .ref h_this_sightSundays, .ref h_this_sightWool, .int v_sights, .ref h_this_pad, .int v_padMany, .ref h_this_act, .ref h_this_which, .ref h_this_much, .int v_acts, .int v_sweptMany, .ref h_this_had, .int v_badAct, .int v_badWhy, .int v_sweptAct, .int v_sweptWhich, .ref h_this_rows, .ref h_this_groups, .ref h_this_covers, .ref h_this_byWool, .ref h_this_wins, .ref h_this_kept, .ref h_this_isKept, .int v_keptAt, .int v_isWriting])), (h_this_stitches, .inl (cI, 10, .inl v_stitches)), (h_this_wool, .inl (cI, 10, .inl v_wool))]) (lv := fun v => [(0, .ref h_this), (1, .int p0), (2, .int (v.2)), (3, .int (v.1))]) n0_1 ((0 : Int32), (-6 : Int32)) hi0_1 hP hD hS (lv_sub hl [2, 3, 1, 0] rfl) ?_
  intro n_1 v_1 hi_1 ih_1 H locs hP hD hS ls hl
  obtain ⟨i_2, i_3⟩ := v_1
  replace vc := vc n_1 i_2 i_3 hi_1
  have hP : va_P D vwCl [(h_this, .inr (9, [.int v_present, .ref h_this_wool, .ref h_this_stitches, .ref h_this_place, .int v_chest, .int v_years, .ref h_this_sightSundays, .ref h_this_sightWool, .int v_sights, .ref h_this_pad, .int v_padMany, .ref h_this_act, .ref h_this_which, .ref h_this_much, .int v_acts, .int v_sweptMany, .ref h_this_had, .int v_badAct, .int v_badWhy, .int v_sweptAct, .int v_sweptWhich, .ref h_this_rows, .ref h_this_groups, .ref h_this_covers, .ref h_this_byWool, .ref h_this_wins, .ref h_this_kept, .ref h_this_isKept, .int v_keptAt, .int v_isWriting])), (h_this_stitches, .inl (cI, 10, .inl v_stitches)), (h_this_wool, .inl (cI, 10, .inl v_wool))] H := hP
  have hD : va_D A [(h_this, .inr (9, [.int v_present, .ref h_this_wool, .ref h_this_stitches, .ref h_this_place, .int v_chest, .int v_years, .ref h_this_sightSundays, .ref h_this_sightWool, .int v_sights, .ref h_this_pad, .int v_padMany, .ref h_this_act, .ref h_this_which, .ref h_this_much, .int v_acts, .int v_sweptMany, .ref h_this_had, .int v_badAct, .int v_badWhy, .int v_sweptAct, .int v_sweptWhich, .ref h_this_rows, .ref h_this_groups, .ref h_this_covers, .ref h_this_byWool, .ref h_this_wins, .ref h_this_kept, .ref h_this_isKept, .int v_keptAt, .int v_isWriting])), (h_this_stitches, .inl (cI, 10, .inl v_stitches)), (h_this_wool, .inl (cI, 10, .inl v_wool))] := hD
  have hl : lv_has ls 5 [(0, .ref h_this), (1, .int p0), (2, .int i_3), (3, .int i_2)] := hl
  refine lv_iload_n hx hb dX9_nextOf_5 rfl (lv_at hl 3 rfl) ?_
  refine lv_bipush (v := (10 : Int32)) hx hb dX9_nextOf_6 (by decide) ?_
  refine lv_icmp_ge (tgt := 72) hx hb dX9_nextOf_8 (by decide) (fun c_ => ?_) (fun c_ => ?_)
  · replace vc := vc.1 c_
    refine lv_iload_n hx hb dX9_nextOf_72 rfl (lv_at hl 2 rfl) ?_
    exact W.iret (v := i_3) hx hb hr (fun t ht hW => ⟨⟨i_3, (), rfl, vc, QB_mk (hP.sub [0, 1, 2] rfl) (hD.sub [0, 1, 2] rfl rfl) ht⟩, hS.F ht⟩) hS.2.2 dX9_nextOf_73
  · replace vc := vc.2 c_
    refine lv_iload_n hx hb dX9_nextOf_11 rfl (lv_at hl 1 rfl) ?_
    refine lv_iload_n hx hb dX9_nextOf_12 rfl (lv_at hl 3 rfl) ?_
    refine kj0_i (rest := []) (kS ⟨hx, hb, hml, hown, hts⟩ (kX9_has _ p0 i_2 vc.1) (va_cwS 2 hts gX9_nextOf_X9_has rfl rfl rfl (by decide +kernel) ⟨(Nat.le_of_ble_eq_true rfl), (Nat.le_of_ble_eq_true rfl)⟩) hK rfl rfl hl.1 (Nat.le_of_ble_eq_true rfl) dX9_nextOf_13 ⟨(Nat.le_of_ble_eq_true rfl), (Nat.le_of_ble_eq_true rfl)⟩) hP hS hA (fun r_4 H locs hq_ hP hS => ?_)
    replace vc := vc.2 r_4 hq_
    have hP : va_P D vwCl [(h_this, .inr (9, [.int v_present, .ref h_this_wool, .ref h_this_stitches, .ref h_this_place, .int v_chest, .int v_years, .ref h_this_sightSundays, .ref h_this_sightWool, .int v_sights, .ref h_this_pad, .int v_padMany, .ref h_this_act, .ref h_this_which, .ref h_this_much, .int v_acts, .int v_sweptMany, .ref h_this_had, .int v_badAct, .int v_badWhy, .int v_sweptAct, .int v_sweptWhich, .ref h_this_rows, .ref h_this_groups, .ref h_this_covers, .ref h_this_byWool, .ref h_this_wins, .ref h_this_kept, .ref h_this_isKept, .int v_keptAt, .int v_isWriting])), (h_this_stitches, .inl (cI, 10, .inl v_stitches)), (h_this_wool, .inl (cI, 10, .inl v_wool))] H := hP
    refine lv_if_eq (tgt := 52) hx hb dX9_nextOf_16 (by decide) (fun c_ => ?_) (fun c_ => ?_)
    · replace vc := vc.1 c_
      refine lv_iconst (v := (0 : Int32)) hx hb dX9_nextOf_52 (by decide) ?_
      refine lv_istore (lv' := [(4, .int (0 : Int32)), (0, .ref h_this), (1, .int p0), (2, .int i_3), (3, .int i_2)]) hx hb dX9_nextOf_53 hl (by decide) rfl (fun ls hl => ?_)
      refine lv_iload hx hb dX9_nextOf_55 (lv_at hl 0 rfl) ?_
      refine lv_if_eq (tgt := 64) hx hb dX9_nextOf_57 (by decide) (fun _ => ?_) (fun c_ => absurd c_ (by decide))
      refine lv_iload_n hx hb dX9_nextOf_64 rfl (lv_at hl 3 rfl) ?_
      refine lv_istore_n (lv' := [(2, .int i_3), (4, .int (0 : Int32)), (0, .ref h_this), (1, .int p0), (3, .int i_2)]) hx hb dX9_nextOf_65 rfl hl (by decide) rfl (fun ls hl => ?_)
      obtain ⟨x_5, ex_5⟩ : ∃ y_ : Int32, y_ = (i_2 + (1 : Int32)) := ⟨_, rfl⟩
      replace vc := vc x_5 ex_5
      refine lv_iinc (v := x_5) (lv' := [(3, .int x_5), (2, .int i_3), (4, .int (0 : Int32)), (0, .ref h_this), (1, .int p0)]) hx hb dX9_nextOf_66 hl (k := 4) rfl (by rw [ex_5]; rfl) (by decide) rfl (fun ls hl => ?_)
      refine lv_goto (tgt := 5) hx hb dX9_nextOf_69 (by decide) ?_
      obtain ⟨n1_, hlt_, hi_⟩ := vc
      exact ih_1 n1_ (x_5, i_3) hlt_ hi_ _ _ hP hD hS ls (lv_sub hl [3, 4, 1, 0] rfl)
    · replace vc := vc.2 c_
      refine lv_iload_n hx hb dX9_nextOf_19 rfl (lv_at hl 2 rfl) ?_
      refine lv_if_lt (tgt := 48) hx hb dX9_nextOf_20 (by decide) (fun c_ => ?_) (fun c_ => ?_)
      · replace vc := vc.1 c_
        refine lv_iconst (v := (1 : Int32)) hx hb dX9_nextOf_48 (by decide) ?_
        refine lv_goto (tgt := 53) hx hb dX9_nextOf_49 (by decide) ?_
        refine lv_istore (lv' := [(4, .int (1 : Int32)), (0, .ref h_this), (1, .int p0), (2, .int i_3), (3, .int i_2)]) hx hb dX9_nextOf_53 hl (by decide) rfl (fun ls hl => ?_)
        refine lv_iload hx hb dX9_nextOf_55 (lv_at hl 0 rfl) ?_
        refine lv_if_eq (tgt := 64) hx hb dX9_nextOf_57 (by decide) (fun c_ => absurd c_ (by decide)) (fun _ => ?_)
        refine lv_iload_n hx hb dX9_nextOf_60 rfl (lv_at hl 4 rfl) ?_
        refine lv_goto (tgt := 65) hx hb dX9_nextOf_61 (by decide) ?_
        refine lv_istore_n (lv' := [(2, .int i_2), (4, .int (1 : Int32)), (0, .ref h_this), (1, .int p0), (3, .int i_2)]) hx hb dX9_nextOf_65 rfl hl (by decide) rfl (fun ls hl => ?_)
        obtain ⟨x_6, ex_6⟩ : ∃ y_ : Int32, y_ = (i_2 + (1 : Int32)) := ⟨_, rfl⟩
        replace vc := vc x_6 ex_6
        refine lv_iinc (v := x_6) (lv' := [(3, .int x_6), (2, .int i_2), (4, .int (1 : Int32)), (0, .ref h_this), (1, .int p0)]) hx hb dX9_nextOf_66 hl (k := 4) rfl (by rw [ex_6]; rfl) (by decide) rfl (fun ls hl => ?_)
        refine lv_goto (tgt := 5) hx hb dX9_nextOf_69 (by decide) ?_
        obtain ⟨n1_, hlt_, hi_⟩ := vc
        exact ih_1 n1_ (x_6, i_2) hlt_ hi_ _ _ hP hD hS ls (lv_sub hl [3, 4, 1, 0] rfl)
      · replace vc := vc.2 c_
        refine lv_aload_n hx hb dX9_nextOf_23 rfl (lv_at hl 0 rfl) ?_
        refine lv_iload_n hx hb dX9_nextOf_24 rfl (lv_at hl 3 rfl) ?_
        refine kj_i (wr := [(h_this_wool, .inl (cI, 10, .inl v_wool))]) (rest := []) (kV ⟨hx, hb, hml, hown, hts⟩ (kX9_weight _ h_this h_this_wool h_this_stitches h_this_place h_this_sightSundays h_this_sightWool h_this_pad h_this_act h_this_which h_this_much h_this_had h_this_rows h_this_groups h_this_covers h_this_byWool h_this_wins h_this_kept h_this_isKept i_2 v_present v_chest v_years v_sights v_padMany v_acts v_sweptMany v_badAct v_badWhy v_sweptAct v_sweptWhich v_keptAt v_isWriting v_stitches vc.1) (cwV 1 hts gX9_nextOf_X9_weight rfl rfl rfl (by decide +kernel) ⟨(Nat.le_of_ble_eq_true rfl), (Nat.le_of_ble_eq_true rfl)⟩) hK hP hD [0, 1] rfl rfl 0 9 rfl rfl rfl rfl rfl hl.1 (Nat.le_of_ble_eq_true rfl) dX9_nextOf_25 ⟨(Nat.le_of_ble_eq_true rfl), (Nat.le_of_ble_eq_true rfl)⟩) hP hD hS hA [0, 1] [2] rfl rfl rfl rfl (fun r_7 u_ H locs hq_ hP hD hS => ?_)
        replace vc := vc.2 r_7  hq_
        have hP : va_P D vwCl [(h_this_wool, .inl (cI, 10, .inl v_wool)), (h_this, .inr (9, [.int v_present, .ref h_this_wool, .ref h_this_stitches, .ref h_this_place, .int v_chest, .int v_years, .ref h_this_sightSundays, .ref h_this_sightWool, .int v_sights, .ref h_this_pad, .int v_padMany, .ref h_this_act, .ref h_this_which, .ref h_this_much, .int v_acts, .int v_sweptMany, .ref h_this_had, .int v_badAct, .int v_badWhy, .int v_sweptAct, .int v_sweptWhich, .ref h_this_rows, .ref h_this_groups, .ref h_this_covers, .ref h_this_byWool, .ref h_this_wins, .ref h_this_kept, .ref h_this_isKept, .int v_keptAt, .int v_isWriting])), (h_this_stitches, .inl (cI, 10, .inl v_stitches))] H := hP
        have hD : va_D A [(h_this_wool, .inl (cI, 10, .inl v_wool)), (h_this, .inr (9, [.int v_present, .ref h_this_wool, .ref h_this_stitches, .ref h_this_place, .int v_chest, .int v_years, .ref h_this_sightSundays, .ref h_this_sightWool, .int v_sights, .ref h_this_pad, .int v_padMany, .ref h_this_act, .ref h_this_which, .ref h_this_much, .int v_acts, .int v_sweptMany, .ref h_this_had, .int v_badAct, .int v_badWhy, .int v_sweptAct, .int v_sweptWhich, .ref h_this_rows, .ref h_this_groups, .ref h_this_covers, .ref h_this_byWool, .ref h_this_wins, .ref h_this_kept, .ref h_this_isKept, .int v_keptAt, .int v_isWriting])), (h_this_stitches, .inl (cI, 10, .inl v_stitches))] := hD
        refine lv_aload_n hx hb dX9_nextOf_28 rfl (lv_at hl 0 rfl) ?_
        refine lv_iload_n hx hb dX9_nextOf_29 rfl (lv_at hl 3 rfl) ?_
        refine kj_i (wr := [(h_this_stitches, .inl (cI, 10, .inl v_stitches))]) (rest := [.int r_7]) (kV ⟨hx, hb, hml, hown, hts⟩ (kX9_bears _ h_this h_this_wool h_this_stitches h_this_place h_this_sightSundays h_this_sightWool h_this_pad h_this_act h_this_which h_this_much h_this_had h_this_rows h_this_groups h_this_covers h_this_byWool h_this_wins h_this_kept h_this_isKept i_2 v_present v_chest v_years v_sights v_padMany v_acts v_sweptMany v_badAct v_badWhy v_sweptAct v_sweptWhich v_keptAt v_isWriting v_wool vc.1) (cwV 1 hts gX9_nextOf_X9_bears rfl rfl rfl (by decide +kernel) ⟨(Nat.le_of_ble_eq_true rfl), (Nat.le_of_ble_eq_true rfl)⟩) hK hP hD [1, 0] rfl rfl 0 9 rfl rfl rfl rfl rfl hl.1 (Nat.le_of_ble_eq_true rfl) dX9_nextOf_30 ⟨(Nat.le_of_ble_eq_true rfl), (Nat.le_of_ble_eq_true rfl)⟩) hP hD hS hA [1, 0] [2] rfl rfl rfl rfl (fun r_8 u_ H locs hq_ hP hD hS => ?_)
        replace vc := vc.2 r_8  hq_
        have hP : va_P D vwCl [(h_this_stitches, .inl (cI, 10, .inl v_stitches)), (h_this, .inr (9, [.int v_present, .ref h_this_wool, .ref h_this_stitches, .ref h_this_place, .int v_chest, .int v_years, .ref h_this_sightSundays, .ref h_this_sightWool, .int v_sights, .ref h_this_pad, .int v_padMany, .ref h_this_act, .ref h_this_which, .ref h_this_much, .int v_acts, .int v_sweptMany, .ref h_this_had, .int v_badAct, .int v_badWhy, .int v_sweptAct, .int v_sweptWhich, .ref h_this_rows, .ref h_this_groups, .ref h_this_covers, .ref h_this_byWool, .ref h_this_wins, .ref h_this_kept, .ref h_this_isKept, .int v_keptAt, .int v_isWriting])), (h_this_wool, .inl (cI, 10, .inl v_wool))] H := hP
        have hD : va_D A [(h_this_stitches, .inl (cI, 10, .inl v_stitches)), (h_this, .inr (9, [.int v_present, .ref h_this_wool, .ref h_this_stitches, .ref h_this_place, .int v_chest, .int v_years, .ref h_this_sightSundays, .ref h_this_sightWool, .int v_sights, .ref h_this_pad, .int v_padMany, .ref h_this_act, .ref h_this_which, .ref h_this_much, .int v_acts, .int v_sweptMany, .ref h_this_had, .int v_badAct, .int v_badWhy, .int v_sweptAct, .int v_sweptWhich, .ref h_this_rows, .ref h_this_groups, .ref h_this_covers, .ref h_this_byWool, .ref h_this_wins, .ref h_this_kept, .ref h_this_isKept, .int v_keptAt, .int v_isWriting])), (h_this_wool, .inl (cI, 10, .inl v_wool))] := hD
        refine lv_iadd hx hb dX9_nextOf_33 ?_
        refine lv_aload_n hx hb dX9_nextOf_34 rfl (lv_at hl 0 rfl) ?_
        refine lv_iload_n hx hb dX9_nextOf_35 rfl (lv_at hl 2 rfl) ?_
        refine kj_i (wr := [(h_this_wool, .inl (cI, 10, .inl v_wool))]) (rest := [.int (r_7 + r_8)]) (kV ⟨hx, hb, hml, hown, hts⟩ (kX9_weight _ h_this h_this_wool h_this_stitches h_this_place h_this_sightSundays h_this_sightWool h_this_pad h_this_act h_this_which h_this_much h_this_had h_this_rows h_this_groups h_this_covers h_this_byWool h_this_wins h_this_kept h_this_isKept i_3 v_present v_chest v_years v_sights v_padMany v_acts v_sweptMany v_badAct v_badWhy v_sweptAct v_sweptWhich v_keptAt v_isWriting v_stitches vc.1) (cwV 1 hts gX9_nextOf_X9_weight rfl rfl rfl (by decide +kernel) ⟨(Nat.le_of_ble_eq_true rfl), (Nat.le_of_ble_eq_true rfl)⟩) hK hP hD [1, 0] rfl rfl 0 9 rfl rfl rfl rfl rfl hl.1 (Nat.le_of_ble_eq_true rfl) dX9_nextOf_36 ⟨(Nat.le_of_ble_eq_true rfl), (Nat.le_of_ble_eq_true rfl)⟩) hP hD hS hA [1, 0] [2] rfl rfl rfl rfl (fun r_9 u_ H locs hq_ hP hD hS => ?_)
        replace vc := vc.2 r_9  hq_
        have hP : va_P D vwCl [(h_this_wool, .inl (cI, 10, .inl v_wool)), (h_this, .inr (9, [.int v_present, .ref h_this_wool, .ref h_this_stitches, .ref h_this_place, .int v_chest, .int v_years, .ref h_this_sightSundays, .ref h_this_sightWool, .int v_sights, .ref h_this_pad, .int v_padMany, .ref h_this_act, .ref h_this_which, .ref h_this_much, .int v_acts, .int v_sweptMany, .ref h_this_had, .int v_badAct, .int v_badWhy, .int v_sweptAct, .int v_sweptWhich, .ref h_this_rows, .ref h_this_groups, .ref h_this_covers, .ref h_this_byWool, .ref h_this_wins, .ref h_this_kept, .ref h_this_isKept, .int v_keptAt, .int v_isWriting])), (h_this_stitches, .inl (cI, 10, .inl v_stitches))] H := hP
        have hD : va_D A [(h_this_wool, .inl (cI, 10, .inl v_wool)), (h_this, .inr (9, [.int v_present, .ref h_this_wool, .ref h_this_stitches, .ref h_this_place, .int v_chest, .int v_years, .ref h_this_sightSundays, .ref h_this_sightWool, .int v_sights, .ref h_this_pad, .int v_padMany, .ref h_this_act, .ref h_this_which, .ref h_this_much, .int v_acts, .int v_sweptMany, .ref h_this_had, .int v_badAct, .int v_badWhy, .int v_sweptAct, .int v_sweptWhich, .ref h_this_rows, .ref h_this_groups, .ref h_this_covers, .ref h_this_byWool, .ref h_this_wins, .ref h_this_kept, .ref h_this_isKept, .int v_keptAt, .int v_isWriting])), (h_this_stitches, .inl (cI, 10, .inl v_stitches))] := hD
        refine lv_aload_n hx hb dX9_nextOf_39 rfl (lv_at hl 0 rfl) ?_
        refine lv_iload_n hx hb dX9_nextOf_40 rfl (lv_at hl 2 rfl) ?_
        refine kj_i (wr := [(h_this_stitches, .inl (cI, 10, .inl v_stitches))]) (rest := [.int r_9, .int (r_7 + r_8)]) (kV ⟨hx, hb, hml, hown, hts⟩ (kX9_bears _ h_this h_this_wool h_this_stitches h_this_place h_this_sightSundays h_this_sightWool h_this_pad h_this_act h_this_which h_this_much h_this_had h_this_rows h_this_groups h_this_covers h_this_byWool h_this_wins h_this_kept h_this_isKept i_3 v_present v_chest v_years v_sights v_padMany v_acts v_sweptMany v_badAct v_badWhy v_sweptAct v_sweptWhich v_keptAt v_isWriting v_wool vc.1) (cwV 1 hts gX9_nextOf_X9_bears rfl rfl rfl (by decide +kernel) ⟨(Nat.le_of_ble_eq_true rfl), (Nat.le_of_ble_eq_true rfl)⟩) hK hP hD [1, 0] rfl rfl 0 9 rfl rfl rfl rfl rfl hl.1 (Nat.le_of_ble_eq_true rfl) dX9_nextOf_41 ⟨(Nat.le_of_ble_eq_true rfl), (Nat.le_of_ble_eq_true rfl)⟩) hP hD hS hA [1, 0] [2] rfl rfl rfl rfl (fun r_10 u_ H locs hq_ hP hD hS => ?_)
        replace vc := vc.2 r_10  hq_
        have hP : va_P D vwCl [(h_this_stitches, .inl (cI, 10, .inl v_stitches)), (h_this, .inr (9, [.int v_present, .ref h_this_wool, .ref h_this_stitches, .ref h_this_place, .int v_chest, .int v_years, .ref h_this_sightSundays, .ref h_this_sightWool, .int v_sights, .ref h_this_pad, .int v_padMany, .ref h_this_act, .ref h_this_which, .ref h_this_much, .int v_acts, .int v_sweptMany, .ref h_this_had, .int v_badAct, .int v_badWhy, .int v_sweptAct, .int v_sweptWhich, .ref h_this_rows, .ref h_this_groups, .ref h_this_covers, .ref h_this_byWool, .ref h_this_wins, .ref h_this_kept, .ref h_this_isKept, .int v_keptAt, .int v_isWriting])), (h_this_wool, .inl (cI, 10, .inl v_wool))] H := hP
        have hD : va_D A [(h_this_stitches, .inl (cI, 10, .inl v_stitches)), (h_this, .inr (9, [.int v_present, .ref h_this_wool, .ref h_this_stitches, .ref h_this_place, .int v_chest, .int v_years, .ref h_this_sightSundays, .ref h_this_sightWool, .int v_sights, .ref h_this_pad, .int v_padMany, .ref h_this_act, .ref h_this_which, .ref h_this_much, .int v_acts, .int v_sweptMany, .ref h_this_had, .int v_badAct, .int v_badWhy, .int v_sweptAct, .int v_sweptWhich, .ref h_this_rows, .ref h_this_groups, .ref h_this_covers, .ref h_this_byWool, .ref h_this_wins, .ref h_this_kept, .ref h_this_isKept, .int v_keptAt, .int v_isWriting])), (h_this_wool, .inl (cI, 10, .inl v_wool))] := hD
        refine lv_iadd hx hb dX9_nextOf_44 ?_
        refine lv_icmp_ge (tgt := 52) hx hb dX9_nextOf_45 (by decide) (fun c_ => ?_) (fun c_ => ?_)
        · replace vc := vc.1 c_
          refine lv_iconst (v := (0 : Int32)) hx hb dX9_nextOf_52 (by decide) ?_
          refine lv_istore (lv' := [(4, .int (0 : Int32)), (0, .ref h_this), (1, .int p0), (2, .int i_3), (3, .int i_2)]) hx hb dX9_nextOf_53 hl (by decide) rfl (fun ls hl => ?_)
          refine lv_iload hx hb dX9_nextOf_55 (lv_at hl 0 rfl) ?_
          refine lv_if_eq (tgt := 64) hx hb dX9_nextOf_57 (by decide) (fun _ => ?_) (fun c_ => absurd c_ (by decide))
          refine lv_iload_n hx hb dX9_nextOf_64 rfl (lv_at hl 3 rfl) ?_
          refine lv_istore_n (lv' := [(2, .int i_3), (4, .int (0 : Int32)), (0, .ref h_this), (1, .int p0), (3, .int i_2)]) hx hb dX9_nextOf_65 rfl hl (by decide) rfl (fun ls hl => ?_)
          obtain ⟨x_11, ex_11⟩ : ∃ y_ : Int32, y_ = (i_2 + (1 : Int32)) := ⟨_, rfl⟩
          replace vc := vc x_11 ex_11
          refine lv_iinc (v := x_11) (lv' := [(3, .int x_11), (2, .int i_3), (4, .int (0 : Int32)), (0, .ref h_this), (1, .int p0)]) hx hb dX9_nextOf_66 hl (k := 4) rfl (by rw [ex_11]; rfl) (by decide) rfl (fun ls hl => ?_)
          refine lv_goto (tgt := 5) hx hb dX9_nextOf_69 (by decide) ?_
          obtain ⟨n1_, hlt_, hi_⟩ := vc
          exact ih_1 n1_ (x_11, i_3) hlt_ hi_ _ _ (hP.sub [1, 0, 2] rfl) (hD.sub [1, 0, 2] rfl rfl) hS ls (lv_sub hl [3, 4, 1, 0] rfl)
        · replace vc := vc.2 c_
          refine lv_iconst (v := (1 : Int32)) hx hb dX9_nextOf_48 (by decide) ?_
          refine lv_goto (tgt := 53) hx hb dX9_nextOf_49 (by decide) ?_
          refine lv_istore (lv' := [(4, .int (1 : Int32)), (0, .ref h_this), (1, .int p0), (2, .int i_3), (3, .int i_2)]) hx hb dX9_nextOf_53 hl (by decide) rfl (fun ls hl => ?_)
          refine lv_iload hx hb dX9_nextOf_55 (lv_at hl 0 rfl) ?_
          refine lv_if_eq (tgt := 64) hx hb dX9_nextOf_57 (by decide) (fun c_ => absurd c_ (by decide)) (fun _ => ?_)
          refine lv_iload_n hx hb dX9_nextOf_60 rfl (lv_at hl 4 rfl) ?_
          refine lv_goto (tgt := 65) hx hb dX9_nextOf_61 (by decide) ?_
          refine lv_istore_n (lv' := [(2, .int i_2), (4, .int (1 : Int32)), (0, .ref h_this), (1, .int p0), (3, .int i_2)]) hx hb dX9_nextOf_65 rfl hl (by decide) rfl (fun ls hl => ?_)
          obtain ⟨x_12, ex_12⟩ : ∃ y_ : Int32, y_ = (i_2 + (1 : Int32)) := ⟨_, rfl⟩
          replace vc := vc x_12 ex_12
          refine lv_iinc (v := x_12) (lv' := [(3, .int x_12), (2, .int i_2), (4, .int (1 : Int32)), (0, .ref h_this), (1, .int p0)]) hx hb dX9_nextOf_66 hl (k := 4) rfl (by rw [ex_12]; rfl) (by decide) rfl (fun ls hl => ?_)
          refine lv_goto (tgt := 5) hx hb dX9_nextOf_69 (by decide) ?_
          obtain ⟨n1_, hlt_, hi_⟩ := vc
          exact ih_1 n1_ (x_12, i_2) hlt_ hi_ _ _ (hP.sub [1, 0, 2] rfl) (hD.sub [1, 0, 2] rfl rfl) hS ls (lv_sub hl [3, 4, 1, 0] rfl)

def KX9_isPile (l : Launch) (D : va_G) (cI cZ : ClassId) (P : Int32 → (Nat → Int32) → (Nat → Int32) → Prop) (Q : Int32 → (Nat → Int32) → (Nat → Int32) → Int32 → Prop) : Prop := ∀ (sz : Nat) (h_this h_this_wool h_this_stitches h_this_place h_this_sightSundays h_this_sightWool h_this_pad h_this_act h_this_which h_this_much h_this_had h_this_rows h_this_groups h_this_covers h_this_byWool h_this_wins h_this_kept h_this_isKept : Nat) (p0 : Int32) (v_present : Int32) (v_chest : Int32) (v_years : Int32) (v_sights : Int32) (v_padMany : Int32) (v_acts : Int32) (v_sweptMany : Int32) (v_badAct : Int32) (v_badWhy : Int32) (v_sweptAct : Int32) (v_sweptWhich : Int32) (v_keptAt : Int32) (v_isWriting : Int32) (v_stitches : (Nat → Int32)) (v_wool : (Nat → Int32)), P p0 v_stitches v_wool → MI l yX9_isPile wsX9_isPile ({ frames := 3, cells := 0, slots := 0, locals := 67 }) [.ref h_this, .int p0] D cI cZ sz [(h_this, .inr (9, [.int v_present, .ref h_this_wool, .ref h_this_stitches, .ref h_this_place, .int v_chest, .int v_years, .ref h_this_sightSundays, .ref h_this_sightWool, .int v_sights, .ref h_this_pad, .int v_padMany, .ref h_this_act, .ref h_this_which, .ref h_this_much, .int v_acts, .int v_sweptMany, .ref h_this_had, .int v_badAct, .int v_badWhy, .int v_sweptAct, .int v_sweptWhich, .ref h_this_rows, .ref h_this_groups, .ref h_this_covers, .ref h_this_byWool, .ref h_this_wins, .ref h_this_kept, .ref h_this_isKept, .int v_keptAt, .int v_isWriting])), (h_this_stitches, .inl (cI, 10, .inl v_stitches)), (h_this_wool, .inl (cI, 10, .inl v_wool))] (fun r (u : Unit) => Q p0 v_stitches v_wool r ) (fun u => [(h_this, .inr (9, [.int v_present, .ref h_this_wool, .ref h_this_stitches, .ref h_this_place, .int v_chest, .int v_years, .ref h_this_sightSundays, .ref h_this_sightWool, .int v_sights, .ref h_this_pad, .int v_padMany, .ref h_this_act, .ref h_this_which, .ref h_this_much, .int v_acts, .int v_sweptMany, .ref h_this_had, .int v_badAct, .int v_badWhy, .int v_sweptAct, .int v_sweptWhich, .ref h_this_rows, .ref h_this_groups, .ref h_this_covers, .ref h_this_byWool, .ref h_this_wins, .ref h_this_kept, .ref h_this_isKept, .int v_keptAt, .int v_isWriting])), (h_this_stitches, .inl (cI, 10, .inl v_stitches)), (h_this_wool, .inl (cI, 10, .inl v_wool))]) 0 0
set_option maxHeartbeats 4000000 in
set_option maxRecDepth 100000 in
theorem walkX9_isPile {l : Launch} {D : va_G} {cI cZ : ClassId} {PX9_isPile : Int32 → (Nat → Int32) → (Nat → Int32) → Prop} {QX9_isPile : Int32 → (Nat → Int32) → (Nat → Int32) → Int32 → Prop} {PX9_nextOf : Int32 → (Nat → Int32) → (Nat → Int32) → Prop} {QX9_nextOf : Int32 → (Nat → Int32) → (Nat → Int32) → Int32 → Prop} {PX9_bears : Int32 → (Nat → Int32) → Prop} {QX9_bears : Int32 → (Nat → Int32) → Int32 → Prop} {PX9_weight : Int32 → (Nat → Int32) → Prop} {QX9_weight : Int32 → (Nat → Int32) → Int32 → Prop} (kX9_nextOf : KX9_nextOf l D cI cZ PX9_nextOf QX9_nextOf) (kX9_bears : KX9_bears l D cI cZ PX9_bears QX9_bears) (kX9_weight : KX9_weight l D cI cZ PX9_weight QX9_weight) (IX9_isPile_7 : Int32 → (Nat → Int32) → (Nat → Int32) → Nat → Int32 → Int32 → Int32 → Prop) (hvc : ∀ (p0 : Int32) (v_stitches : (Nat → Int32)) (v_wool : (Nat → Int32)), PX9_isPile p0 v_stitches v_wool → ((∃ n0 : Nat, IX9_isPile_7 p0 v_stitches v_wool n0 p0 (0 : Int32) (1 : Int32)) ∧ (∀ (n_1 : Nat) (i_2 : Int32) (i_3 : Int32) (i_4 : Int32), (IX9_isPile_7 p0 v_stitches v_wool n_1 i_2 i_3 i_4 → ((i_2 = 0 → ((i_4 = 0 ∨ i_4 = 1) ∧ QX9_isPile p0 v_stitches v_wool i_4 )) ∧ (¬ i_2 = 0 → ((i_4 = 0 → ((i_4 = 0 ∨ i_4 = 1) ∧ QX9_isPile p0 v_stitches v_wool i_4 )) ∧ (¬ i_4 = 0 → (PX9_nextOf i_2 v_stitches v_wool ∧ (∀ (r_5 : Int32), QX9_nextOf i_2 v_stitches v_wool r_5  → (PX9_bears r_5 v_wool ∧ (∀ (r_6 : Int32), QX9_bears r_5 v_wool r_6  → ((r_6 < i_3 → (PX9_weight r_5 v_stitches ∧ (∀ (r_7 : Int32), QX9_weight r_5 v_stitches r_7  → (∀ x_8 : Int32, x_8 = (i_3 + r_7) → (∀ x_9 : Int32, x_9 = (i_2 &&& (((1 : Int32) <<< (r_5 &&& 31)) ^^^ (-1 : Int32))) → (∃ n1 : Nat, n1 < n_1 ∧ IX9_isPile_7 p0 v_stitches v_wool n1 x_9 x_8 (0 : Int32))))))) ∧ (¬ r_6 < i_3 → (PX9_weight r_5 v_stitches ∧ (∀ (r_10 : Int32), QX9_weight r_5 v_stitches r_10  → (∀ x_11 : Int32, x_11 = (i_3 + r_10) → (∀ x_12 : Int32, x_12 = (i_2 &&& (((1 : Int32) <<< (r_5 &&& 31)) ^^^ (-1 : Int32))) → (∃ n1 : Nat, n1 < n_1 ∧ IX9_isPile_7 p0 v_stitches v_wool n1 x_12 x_11 (1 : Int32)))))))))))))))))))) : KX9_isPile l D cI cZ PX9_isPile QX9_isPile := by
  intro sz h_this h_this_wool h_this_stitches h_this_place h_this_sightSundays h_this_sightWool h_this_pad h_this_act h_this_which h_this_much h_this_had h_this_rows h_this_groups h_this_covers h_this_byWool h_this_wins h_this_kept h_this_isKept p0 v_present v_chest v_years v_sights v_padMany v_acts v_sweptMany v_badAct v_badWhy v_sweptAct v_sweptWhich v_keptAt v_isWriting v_stitches v_wool hpre
  have vc := hvc p0 v_stitches v_wool hpre
  clear hvc
  refine Met.ofW (cc := cX9_isPile) (maxL := 6) (ret := (some .boolean)) (by decide) rfl ?_
  intro p e s m args below meth c s₁ B hml hv
  obtain ⟨rfl, hsz, hP, hK, hD0⟩ := hv
  have hx := B.exec
  have hb := B.bytes
  have hr := B.returns
  have hts := atoms_spec (ws := wsX9_isPile) B.pre
  have hown : s.vm.findClass RX9 = some m.cls := findClass_of_methodNamed B.named
  have hlocks := B.notSynchronized
  subst hsz
  have hD := hD0.self (sz := s.heap.size)
  generalize hAe : va_A [(h_this, .inr (9, [.int v_present, .ref h_this_wool, .ref h_this_stitches, .ref h_this_place, .int v_chest, .int v_years, .ref h_this_sightSundays, .ref h_this_sightWool, .int v_sights, .ref h_this_pad, .int v_padMany, .ref h_this_act, .ref h_this_which, .ref h_this_much, .int v_acts, .int v_sweptMany, .ref h_this_had, .int v_badAct, .int v_badWhy, .int v_sweptAct, .int v_sweptWhich, .ref h_this_rows, .ref h_this_groups, .ref h_this_covers, .ref h_this_byWool, .ref h_this_wins, .ref h_this_kept, .ref h_this_isKept, .int v_keptAt, .int v_isWriting])), (h_this_stitches, .inl (cI, 10, .inl v_stitches)), (h_this_wool, .inl (cI, 10, .inl v_wool))] s.heap.size = A at hD ⊢
  have hA : ∀ q : Nat, s.heap.size ≤ q → A q := fun q h => by rw [← hAe]; exact Or.inr h
  have hS : va_S A s.heap s.heap [] := va_S.rf
  have hP : va_P D vwCl [(h_this, .inr (9, [.int v_present, .ref h_this_wool, .ref h_this_stitches, .ref h_this_place, .int v_chest, .int v_years, .ref h_this_sightSundays, .ref h_this_sightWool, .int v_sights, .ref h_this_pad, .int v_padMany, .ref h_this_act, .ref h_this_which, .ref h_this_much, .int v_acts, .int v_sweptMany, .ref h_this_had, .int v_badAct, .int v_badWhy, .int v_sweptAct, .int v_sweptWhich, .ref h_this_rows, .ref h_this_groups, .ref h_this_covers, .ref h_this_byWool, .ref h_this_wins, .ref h_this_kept, .ref h_this_isKept, .int v_keptAt, .int v_isWriting])), (h_this_stitches, .inl (cI, 10, .inl v_stitches)), (h_this_wool, .inl (cI, 10, .inl v_wool))] s.heap := hP
  have hl := lv_entry ([.ref h_this, .int p0]) (n := 6) (Nat.le_of_ble_eq_true rfl)
  rw [lg_entry_eq]
  generalize (lg_sl ([.ref h_this, .int p0]) ++ List.replicate (6 - (lg_sl ([.ref h_this, .int p0])).length) Slot.unset).toArray = ls at hl ⊢
  have hl : lv_has ls 6 [(0, .ref h_this), (1, .int p0)] := hl
  refine lv_iload_n hx hb dX9_isPile_0 rfl (lv_at hl 1 rfl) ?_
  refine lv_istore_n (lv' := [(2, .int p0), (0, .ref h_this), (1, .int p0)]) hx hb dX9_isPile_1 rfl hl (by decide) rfl (fun ls hl => ?_)
  refine lv_iconst (v := (0 : Int32)) hx hb dX9_isPile_2 (by decide) ?_
  refine lv_istore_n (lv' := [(3, .int (0 : Int32)), (2, .int p0), (0, .ref h_this), (1, .int p0)]) hx hb dX9_isPile_3 rfl hl (by decide) rfl (fun ls hl => ?_)
  refine lv_iconst (v := (1 : Int32)) hx hb dX9_isPile_4 (by decide) ?_
  refine lv_istore (lv' := [(4, .int (1 : Int32)), (3, .int (0 : Int32)), (2, .int p0), (0, .ref h_this), (1, .int p0)]) hx hb dX9_isPile_5 hl (by decide) rfl (fun ls hl => ?_)
  obtain ⟨⟨n0_1, hi0_1⟩, vc⟩ := vc
  refine kloop (V := Int32 × Int32 × Int32) (I := fun n v => IX9_isPile_7 p0 v_stitches v_wool n (v.1) (v.2.1) (v.2.2)) (wv := fun v => [(h_this, .inr (9, [.int v_present, .ref h_this_wool, .ref h_this_stitches, .ref h_this_place, .int v_chest, .int v_years, .ref h_this_sightSundays, .ref h_this_sightWool, .int v_sights, .ref h_this_pad, .int v_padMany, .ref h_this_act, .ref h_this_which, .ref h_this_much, .int v_acts, .int v_sweptMany, .ref h_this_had, .int v_badAct, .int v_badWhy, .int v_sweptAct, .int v_sweptWhich, .ref h_this_rows, .ref h_this_groups, .ref h_this_covers, .ref h_this_byWool, .ref h_this_wins, .ref h_this_kept, .ref h_this_isKept, .int v_keptAt, .int v_isWriting])), (h_this_stitches, .inl (cI, 10, .inl v_stitches)), (h_this_wool, .inl (cI, 10, .inl v_wool))]) (lv := fun v => [(0, .ref h_this), (2, .int (v.1)), (3, .int (v.2.1)), (4, .int (v.2.2))]) n0_1 (p0, (0 : Int32), (1 : Int32)) hi0_1 hP hD hS (lv_sub hl [3, 2, 1, 0] rfl) ?_
  intro n_1 v_1 hi_1 ih_1 H locs hP hD hS ls hl
  obtain ⟨i_2, i_3, i_4⟩ := v_1
  replace vc := vc n_1 i_2 i_3 i_4 hi_1
  have hP : va_P D vwCl [(h_this, .inr (9, [.int v_present, .ref h_this_wool, .ref h_this_stitches, .ref h_this_place, .int v_chest, .int v_years, .ref h_this_sightSundays, .ref h_this_sightWool, .int v_sights, .ref h_this_pad, .int v_padMany, .ref h_this_act, .ref h_this_which, .ref h_this_much, .int v_acts, .int v_sweptMany, .ref h_this_had, .int v_badAct, .int v_badWhy, .int v_sweptAct, .int v_sweptWhich, .ref h_this_rows, .ref h_this_groups, .ref h_this_covers, .ref h_this_byWool, .ref h_this_wins, .ref h_this_kept, .ref h_this_isKept, .int v_keptAt, .int v_isWriting])), (h_this_stitches, .inl (cI, 10, .inl v_stitches)), (h_this_wool, .inl (cI, 10, .inl v_wool))] H := hP
  have hD : va_D A [(h_this, .inr (9, [.int v_present, .ref h_this_wool, .ref h_this_stitches, .ref h_this_place, .int v_chest, .int v_years, .ref h_this_sightSundays, .ref h_this_sightWool, .int v_sights, .ref h_this_pad, .int v_padMany, .ref h_this_act, .ref h_this_which, .ref h_this_much, .int v_acts, .int v_sweptMany, .ref h_this_had, .int v_badAct, .int v_badWhy, .int v_sweptAct, .int v_sweptWhich, .ref h_this_rows, .ref h_this_groups, .ref h_this_covers, .ref h_this_byWool, .ref h_this_wins, .ref h_this_kept, .ref h_this_isKept, .int v_keptAt, .int v_isWriting])), (h_this_stitches, .inl (cI, 10, .inl v_stitches)), (h_this_wool, .inl (cI, 10, .inl v_wool))] := hD
  have hl : lv_has ls 6 [(0, .ref h_this), (2, .int i_2), (3, .int i_3), (4, .int i_4)] := hl
  refine lv_iload_n hx hb dX9_isPile_7 rfl (lv_at hl 1 rfl) ?_
  refine lv_if_eq (tgt := 61) hx hb dX9_isPile_8 (by decide) (fun c_ => ?_) (fun c_ => ?_)
  · replace vc := vc.1 c_
    refine lv_iload hx hb dX9_isPile_61 (lv_at hl 3 rfl) ?_
    exact W.zret (v := i_4) hx hb hr (bool_isB vc.1) (fun t ht hW => ⟨⟨i_4, (), rfl, vc.2, QB_mk (hP.sub [0, 1, 2] rfl) (hD.sub [0, 1, 2] rfl rfl) ht⟩, hS.F ht⟩) hS.2.2 dX9_isPile_63
  · replace vc := vc.2 c_
    refine lv_iload hx hb dX9_isPile_11 (lv_at hl 3 rfl) ?_
    refine lv_if_eq (tgt := 61) hx hb dX9_isPile_13 (by decide) (fun c_ => ?_) (fun c_ => ?_)
    · replace vc := vc.1 c_
      refine lv_iload hx hb dX9_isPile_61 (lv_at hl 3 rfl) ?_
      exact W.zret (v := i_4) hx hb hr (bool_isB vc.1) (fun t ht hW => ⟨⟨i_4, (), rfl, vc.2, QB_mk (hP.sub [0, 1, 2] rfl) (hD.sub [0, 1, 2] rfl rfl) ht⟩, hS.F ht⟩) hS.2.2 dX9_isPile_63
    · replace vc := vc.2 c_
      refine lv_aload_n hx hb dX9_isPile_16 rfl (lv_at hl 0 rfl) ?_
      refine lv_iload_n hx hb dX9_isPile_17 rfl (lv_at hl 1 rfl) ?_
      refine kj_i (wr := []) (rest := []) (kV ⟨hx, hb, hml, hown, hts⟩ (kX9_nextOf _ h_this h_this_wool h_this_stitches h_this_place h_this_sightSundays h_this_sightWool h_this_pad h_this_act h_this_which h_this_much h_this_had h_this_rows h_this_groups h_this_covers h_this_byWool h_this_wins h_this_kept h_this_isKept i_2 v_present v_chest v_years v_sights v_padMany v_acts v_sweptMany v_badAct v_badWhy v_sweptAct v_sweptWhich v_keptAt v_isWriting v_stitches v_wool vc.1) (cwV 1 hts gX9_isPile_X9_nextOf rfl rfl rfl (by decide +kernel) ⟨(Nat.le_of_ble_eq_true rfl), (Nat.le_of_ble_eq_true rfl)⟩) hK hP hD [0, 1, 2] rfl rfl 0 9 rfl rfl rfl rfl rfl hl.1 (Nat.le_of_ble_eq_true rfl) dX9_isPile_18 ⟨(Nat.le_of_ble_eq_true rfl), (Nat.le_of_ble_eq_true rfl)⟩) hP hD hS hA [0, 1, 2] [] rfl rfl rfl rfl (fun r_5 u_ H locs hq_ hP hD hS => ?_)
      replace vc := vc.2 r_5  hq_
      have hP : va_P D vwCl [(h_this, .inr (9, [.int v_present, .ref h_this_wool, .ref h_this_stitches, .ref h_this_place, .int v_chest, .int v_years, .ref h_this_sightSundays, .ref h_this_sightWool, .int v_sights, .ref h_this_pad, .int v_padMany, .ref h_this_act, .ref h_this_which, .ref h_this_much, .int v_acts, .int v_sweptMany, .ref h_this_had, .int v_badAct, .int v_badWhy, .int v_sweptAct, .int v_sweptWhich, .ref h_this_rows, .ref h_this_groups, .ref h_this_covers, .ref h_this_byWool, .ref h_this_wins, .ref h_this_kept, .ref h_this_isKept, .int v_keptAt, .int v_isWriting])), (h_this_stitches, .inl (cI, 10, .inl v_stitches)), (h_this_wool, .inl (cI, 10, .inl v_wool))] H := hP
      have hD : va_D A [(h_this, .inr (9, [.int v_present, .ref h_this_wool, .ref h_this_stitches, .ref h_this_place, .int v_chest, .int v_years, .ref h_this_sightSundays, .ref h_this_sightWool, .int v_sights, .ref h_this_pad, .int v_padMany, .ref h_this_act, .ref h_this_which, .ref h_this_much, .int v_acts, .int v_sweptMany, .ref h_this_had, .int v_badAct, .int v_badWhy, .int v_sweptAct, .int v_sweptWhich, .ref h_this_rows, .ref h_this_groups, .ref h_this_covers, .ref h_this_byWool, .ref h_this_wins, .ref h_this_kept, .ref h_this_isKept, .int v_keptAt, .int v_isWriting])), (h_this_stitches, .inl (cI, 10, .inl v_stitches)), (h_this_wool, .inl (cI, 10, .inl v_wool))] := hD
      refine lv_istore (lv' := [(5, .int r_5), (0, .ref h_this), (2, .int i_2), (3, .int i_3), (4, .int i_4)]) hx hb dX9_isPile_21 hl (by decide) rfl (fun ls hl => ?_)
      refine lv_iload_n hx hb dX9_isPile_23 rfl (lv_at hl 3 rfl) ?_
      refine lv_aload_n hx hb dX9_isPile_24 rfl (lv_at hl 1 rfl) ?_
      refine lv_iload hx hb dX9_isPile_25 (lv_at hl 0 rfl) ?_
      refine kj_i (wr := [(h_this_stitches, .inl (cI, 10, .inl v_stitches))]) (rest := [.int i_3]) (kV ⟨hx, hb, hml, hown, hts⟩ (kX9_bears _ h_this h_this_wool h_this_stitches h_this_place h_this_sightSundays h_this_sightWool h_this_pad h_this_act h_this_which h_this_much h_this_had h_this_rows h_this_groups h_this_covers h_this_byWool h_this_wins h_this_kept h_this_isKept r_5 v_present v_chest v_years v_sights v_padMany v_acts v_sweptMany v_badAct v_badWhy v_sweptAct v_sweptWhich v_keptAt v_isWriting v_wool vc.1) (cwV 1 hts gX9_isPile_X9_bears rfl rfl rfl (by decide +kernel) ⟨(Nat.le_of_ble_eq_true rfl), (Nat.le_of_ble_eq_true rfl)⟩) hK hP hD [0, 2] rfl rfl 0 9 rfl rfl rfl rfl rfl hl.1 (Nat.le_of_ble_eq_true rfl) dX9_isPile_27 ⟨(Nat.le_of_ble_eq_true rfl), (Nat.le_of_ble_eq_true rfl)⟩) hP hD hS hA [0, 2] [1] rfl rfl rfl rfl (fun r_6 u_ H locs hq_ hP hD hS => ?_)
      replace vc := vc.2 r_6  hq_
      have hP : va_P D vwCl [(h_this_stitches, .inl (cI, 10, .inl v_stitches)), (h_this, .inr (9, [.int v_present, .ref h_this_wool, .ref h_this_stitches, .ref h_this_place, .int v_chest, .int v_years, .ref h_this_sightSundays, .ref h_this_sightWool, .int v_sights, .ref h_this_pad, .int v_padMany, .ref h_this_act, .ref h_this_which, .ref h_this_much, .int v_acts, .int v_sweptMany, .ref h_this_had, .int v_badAct, .int v_badWhy, .int v_sweptAct, .int v_sweptWhich, .ref h_this_rows, .ref h_this_groups, .ref h_this_covers, .ref h_this_byWool, .ref h_this_wins, .ref h_this_kept, .ref h_this_isKept, .int v_keptAt, .int v_isWriting])), (h_this_wool, .inl (cI, 10, .inl v_wool))] H := hP
      have hD : va_D A [(h_this_stitches, .inl (cI, 10, .inl v_stitches)), (h_this, .inr (9, [.int v_present, .ref h_this_wool, .ref h_this_stitches, .ref h_this_place, .int v_chest, .int v_years, .ref h_this_sightSundays, .ref h_this_sightWool, .int v_sights, .ref h_this_pad, .int v_padMany, .ref h_this_act, .ref h_this_which, .ref h_this_much, .int v_acts, .int v_sweptMany, .ref h_this_had, .int v_badAct, .int v_badWhy, .int v_sweptAct, .int v_sweptWhich, .ref h_this_rows, .ref h_this_groups, .ref h_this_covers, .ref h_this_byWool, .ref h_this_wins, .ref h_this_kept, .ref h_this_isKept, .int v_keptAt, .int v_isWriting])), (h_this_wool, .inl (cI, 10, .inl v_wool))] := hD
      refine lv_icmp_gt (tgt := 37) hx hb dX9_isPile_30 (by decide) (fun c_ => ?_) (fun c_ => ?_)
      · replace vc := vc.1 c_
        refine lv_iconst (v := (0 : Int32)) hx hb dX9_isPile_37 (by decide) ?_
        refine lv_istore (lv' := [(4, .int (0 : Int32)), (5, .int r_5), (0, .ref h_this), (2, .int i_2), (3, .int i_3)]) hx hb dX9_isPile_38 hl (by decide) rfl (fun ls hl => ?_)
        refine lv_iload_n hx hb dX9_isPile_40 rfl (lv_at hl 4 rfl) ?_
        refine lv_aload_n hx hb dX9_isPile_41 rfl (lv_at hl 2 rfl) ?_
        refine lv_iload hx hb dX9_isPile_42 (lv_at hl 1 rfl) ?_
        refine kj_i (wr := [(h_this_wool, .inl (cI, 10, .inl v_wool))]) (rest := [.int i_3]) (kV ⟨hx, hb, hml, hown, hts⟩ (kX9_weight _ h_this h_this_wool h_this_stitches h_this_place h_this_sightSundays h_this_sightWool h_this_pad h_this_act h_this_which h_this_much h_this_had h_this_rows h_this_groups h_this_covers h_this_byWool h_this_wins h_this_kept h_this_isKept r_5 v_present v_chest v_years v_sights v_padMany v_acts v_sweptMany v_badAct v_badWhy v_sweptAct v_sweptWhich v_keptAt v_isWriting v_stitches vc.1) (cwV 1 hts gX9_isPile_X9_weight rfl rfl rfl (by decide +kernel) ⟨(Nat.le_of_ble_eq_true rfl), (Nat.le_of_ble_eq_true rfl)⟩) hK hP hD [1, 0] rfl rfl 0 9 rfl rfl rfl rfl rfl hl.1 (Nat.le_of_ble_eq_true rfl) dX9_isPile_44 ⟨(Nat.le_of_ble_eq_true rfl), (Nat.le_of_ble_eq_true rfl)⟩) hP hD hS hA [1, 0] [2] rfl rfl rfl rfl (fun r_7 u_ H locs hq_ hP hD hS => ?_)
        replace vc := vc.2 r_7  hq_
        have hP : va_P D vwCl [(h_this_wool, .inl (cI, 10, .inl v_wool)), (h_this, .inr (9, [.int v_present, .ref h_this_wool, .ref h_this_stitches, .ref h_this_place, .int v_chest, .int v_years, .ref h_this_sightSundays, .ref h_this_sightWool, .int v_sights, .ref h_this_pad, .int v_padMany, .ref h_this_act, .ref h_this_which, .ref h_this_much, .int v_acts, .int v_sweptMany, .ref h_this_had, .int v_badAct, .int v_badWhy, .int v_sweptAct, .int v_sweptWhich, .ref h_this_rows, .ref h_this_groups, .ref h_this_covers, .ref h_this_byWool, .ref h_this_wins, .ref h_this_kept, .ref h_this_isKept, .int v_keptAt, .int v_isWriting])), (h_this_stitches, .inl (cI, 10, .inl v_stitches))] H := hP
        have hD : va_D A [(h_this_wool, .inl (cI, 10, .inl v_wool)), (h_this, .inr (9, [.int v_present, .ref h_this_wool, .ref h_this_stitches, .ref h_this_place, .int v_chest, .int v_years, .ref h_this_sightSundays, .ref h_this_sightWool, .int v_sights, .ref h_this_pad, .int v_padMany, .ref h_this_act, .ref h_this_which, .ref h_this_much, .int v_acts, .int v_sweptMany, .ref h_this_had, .int v_badAct, .int v_badWhy, .int v_sweptAct, .int v_sweptWhich, .ref h_this_rows, .ref h_this_groups, .ref h_this_covers, .ref h_this_byWool, .ref h_this_wins, .ref h_this_kept, .ref h_this_isKept, .int v_keptAt, .int v_isWriting])), (h_this_stitches, .inl (cI, 10, .inl v_stitches))] := hD
        refine lv_iadd hx hb dX9_isPile_47 ?_
        refine lv_topi (fun x_8 ex_8 => ?_)
        replace vc := vc x_8 ex_8
        refine lv_istore_n (lv' := [(3, .int x_8), (4, .int (0 : Int32)), (5, .int r_5), (0, .ref h_this), (2, .int i_2)]) hx hb dX9_isPile_48 rfl hl (by decide) rfl (fun ls hl => ?_)
        refine lv_iload_n hx hb dX9_isPile_49 rfl (lv_at hl 4 rfl) ?_
        refine lv_iconst (v := (1 : Int32)) hx hb dX9_isPile_50 (by decide) ?_
        refine lv_iload hx hb dX9_isPile_51 (lv_at hl 2 rfl) ?_
        refine lv_ishl hx hb dX9_isPile_53 ?_
        refine lv_iconst (v := (-1 : Int32)) hx hb dX9_isPile_54 (by decide) ?_
        refine lv_ixor hx hb dX9_isPile_55 ?_
        refine lv_iand hx hb dX9_isPile_56 ?_
        refine lv_topi (fun x_9 ex_9 => ?_)
        replace vc := vc x_9 ex_9
        refine lv_istore_n (lv' := [(2, .int x_9), (3, .int x_8), (4, .int (0 : Int32)), (5, .int r_5), (0, .ref h_this)]) hx hb dX9_isPile_57 rfl hl (by decide) rfl (fun ls hl => ?_)
        refine lv_goto (tgt := 7) hx hb dX9_isPile_58 (by decide) ?_
        obtain ⟨n1_, hlt_, hi_⟩ := vc
        exact ih_1 n1_ (x_9, x_8, (0 : Int32)) hlt_ hi_ _ _ (hP.sub [1, 2, 0] rfl) (hD.sub [1, 2, 0] rfl rfl) hS ls (lv_sub hl [4, 0, 1, 2] rfl)
      · replace vc := vc.2 c_
        refine lv_iconst (v := (1 : Int32)) hx hb dX9_isPile_33 (by decide) ?_
        refine lv_goto (tgt := 38) hx hb dX9_isPile_34 (by decide) ?_
        refine lv_istore (lv' := [(4, .int (1 : Int32)), (5, .int r_5), (0, .ref h_this), (2, .int i_2), (3, .int i_3)]) hx hb dX9_isPile_38 hl (by decide) rfl (fun ls hl => ?_)
        refine lv_iload_n hx hb dX9_isPile_40 rfl (lv_at hl 4 rfl) ?_
        refine lv_aload_n hx hb dX9_isPile_41 rfl (lv_at hl 2 rfl) ?_
        refine lv_iload hx hb dX9_isPile_42 (lv_at hl 1 rfl) ?_
        refine kj_i (wr := [(h_this_wool, .inl (cI, 10, .inl v_wool))]) (rest := [.int i_3]) (kV ⟨hx, hb, hml, hown, hts⟩ (kX9_weight _ h_this h_this_wool h_this_stitches h_this_place h_this_sightSundays h_this_sightWool h_this_pad h_this_act h_this_which h_this_much h_this_had h_this_rows h_this_groups h_this_covers h_this_byWool h_this_wins h_this_kept h_this_isKept r_5 v_present v_chest v_years v_sights v_padMany v_acts v_sweptMany v_badAct v_badWhy v_sweptAct v_sweptWhich v_keptAt v_isWriting v_stitches vc.1) (cwV 1 hts gX9_isPile_X9_weight rfl rfl rfl (by decide +kernel) ⟨(Nat.le_of_ble_eq_true rfl), (Nat.le_of_ble_eq_true rfl)⟩) hK hP hD [1, 0] rfl rfl 0 9 rfl rfl rfl rfl rfl hl.1 (Nat.le_of_ble_eq_true rfl) dX9_isPile_44 ⟨(Nat.le_of_ble_eq_true rfl), (Nat.le_of_ble_eq_true rfl)⟩) hP hD hS hA [1, 0] [2] rfl rfl rfl rfl (fun r_10 u_ H locs hq_ hP hD hS => ?_)
        replace vc := vc.2 r_10  hq_
        have hP : va_P D vwCl [(h_this_wool, .inl (cI, 10, .inl v_wool)), (h_this, .inr (9, [.int v_present, .ref h_this_wool, .ref h_this_stitches, .ref h_this_place, .int v_chest, .int v_years, .ref h_this_sightSundays, .ref h_this_sightWool, .int v_sights, .ref h_this_pad, .int v_padMany, .ref h_this_act, .ref h_this_which, .ref h_this_much, .int v_acts, .int v_sweptMany, .ref h_this_had, .int v_badAct, .int v_badWhy, .int v_sweptAct, .int v_sweptWhich, .ref h_this_rows, .ref h_this_groups, .ref h_this_covers, .ref h_this_byWool, .ref h_this_wins, .ref h_this_kept, .ref h_this_isKept, .int v_keptAt, .int v_isWriting])), (h_this_stitches, .inl (cI, 10, .inl v_stitches))] H := hP
        have hD : va_D A [(h_this_wool, .inl (cI, 10, .inl v_wool)), (h_this, .inr (9, [.int v_present, .ref h_this_wool, .ref h_this_stitches, .ref h_this_place, .int v_chest, .int v_years, .ref h_this_sightSundays, .ref h_this_sightWool, .int v_sights, .ref h_this_pad, .int v_padMany, .ref h_this_act, .ref h_this_which, .ref h_this_much, .int v_acts, .int v_sweptMany, .ref h_this_had, .int v_badAct, .int v_badWhy, .int v_sweptAct, .int v_sweptWhich, .ref h_this_rows, .ref h_this_groups, .ref h_this_covers, .ref h_this_byWool, .ref h_this_wins, .ref h_this_kept, .ref h_this_isKept, .int v_keptAt, .int v_isWriting])), (h_this_stitches, .inl (cI, 10, .inl v_stitches))] := hD
        refine lv_iadd hx hb dX9_isPile_47 ?_
        refine lv_topi (fun x_11 ex_11 => ?_)
        replace vc := vc x_11 ex_11
        refine lv_istore_n (lv' := [(3, .int x_11), (4, .int (1 : Int32)), (5, .int r_5), (0, .ref h_this), (2, .int i_2)]) hx hb dX9_isPile_48 rfl hl (by decide) rfl (fun ls hl => ?_)
        refine lv_iload_n hx hb dX9_isPile_49 rfl (lv_at hl 4 rfl) ?_
        refine lv_iconst (v := (1 : Int32)) hx hb dX9_isPile_50 (by decide) ?_
        refine lv_iload hx hb dX9_isPile_51 (lv_at hl 2 rfl) ?_
        refine lv_ishl hx hb dX9_isPile_53 ?_
        refine lv_iconst (v := (-1 : Int32)) hx hb dX9_isPile_54 (by decide) ?_
        refine lv_ixor hx hb dX9_isPile_55 ?_
        refine lv_iand hx hb dX9_isPile_56 ?_
        refine lv_topi (fun x_12 ex_12 => ?_)
        replace vc := vc x_12 ex_12
        refine lv_istore_n (lv' := [(2, .int x_12), (3, .int x_11), (4, .int (1 : Int32)), (5, .int r_5), (0, .ref h_this)]) hx hb dX9_isPile_57 rfl hl (by decide) rfl (fun ls hl => ?_)
        refine lv_goto (tgt := 7) hx hb dX9_isPile_58 (by decide) ?_
        obtain ⟨n1_, hlt_, hi_⟩ := vc
        exact ih_1 n1_ (x_12, x_11, (1 : Int32)) hlt_ hi_ _ _ (hP.sub [1, 2, 0] rfl) (hD.sub [1, 2, 0] rfl rfl) hS ls (lv_sub hl [4, 0, 1, 2] rfl)

theorem mwX9_pile_1 : Cond.fieldLink RX9 62 "HassockSeeModel" "present" "I" ∈ wsX9_pile := List.mem_of_getElem? (i := 1) rfl
theorem mcX9_pile_X9 : ∀ w ∈ u_ws RX9 TX9 30, w ∈ wsX9_pile := fun _ h => (List.mem_cons_of_mem _ (List.mem_append_right _ h))
def KX9_pile (l : Launch) (D : va_G) (cI cZ : ClassId) (P : Int32 → Int32 → (Nat → Int32) → (Nat → Int32) → Prop) (Q : Int32 → Int32 → (Nat → Int32) → (Nat → Int32) → Int32 → Prop) : Prop := ∀ (sz : Nat) (h_this h_this_wool h_this_stitches h_this_place h_this_sightSundays h_this_sightWool h_this_pad h_this_act h_this_which h_this_much h_this_had h_this_rows h_this_groups h_this_covers h_this_byWool h_this_wins h_this_kept h_this_isKept : Nat) (p0 : Int32) (v_present : Int32) (v_chest : Int32) (v_years : Int32) (v_sights : Int32) (v_padMany : Int32) (v_acts : Int32) (v_sweptMany : Int32) (v_badAct : Int32) (v_badWhy : Int32) (v_sweptAct : Int32) (v_sweptWhich : Int32) (v_keptAt : Int32) (v_isWriting : Int32) (v_stitches : (Nat → Int32)) (v_wool : (Nat → Int32)), P p0 v_present v_stitches v_wool → MI l yX9_pile wsX9_pile ({ frames := 4, cells := 0, slots := 0, locals := 92 }) [.ref h_this, .int p0] D cI cZ sz [(h_this, .inr (9, [.int v_present, .ref h_this_wool, .ref h_this_stitches, .ref h_this_place, .int v_chest, .int v_years, .ref h_this_sightSundays, .ref h_this_sightWool, .int v_sights, .ref h_this_pad, .int v_padMany, .ref h_this_act, .ref h_this_which, .ref h_this_much, .int v_acts, .int v_sweptMany, .ref h_this_had, .int v_badAct, .int v_badWhy, .int v_sweptAct, .int v_sweptWhich, .ref h_this_rows, .ref h_this_groups, .ref h_this_covers, .ref h_this_byWool, .ref h_this_wins, .ref h_this_kept, .ref h_this_isKept, .int v_keptAt, .int v_isWriting])), (h_this_stitches, .inl (cI, 10, .inl v_stitches)), (h_this_wool, .inl (cI, 10, .inl v_wool))] (fun r (u : Unit) => Q p0 v_present v_stitches v_wool r ) (fun u => [(h_this, .inr (9, [.int v_present, .ref h_this_wool, .ref h_this_stitches, .ref h_this_place, .int v_chest, .int v_years, .ref h_this_sightSundays, .ref h_this_sightWool, .int v_sights, .ref h_this_pad, .int v_padMany, .ref h_this_act, .ref h_this_which, .ref h_this_much, .int v_acts, .int v_sweptMany, .ref h_this_had, .int v_badAct, .int v_badWhy, .int v_sweptAct, .int v_sweptWhich, .ref h_this_rows, .ref h_this_groups, .ref h_this_covers, .ref h_this_byWool, .ref h_this_wins, .ref h_this_kept, .ref h_this_isKept, .int v_keptAt, .int v_isWriting])), (h_this_stitches, .inl (cI, 10, .inl v_stitches)), (h_this_wool, .inl (cI, 10, .inl v_wool))]) 0 0
set_option maxHeartbeats 4000000 in
set_option maxRecDepth 100000 in
theorem walkX9_pile {l : Launch} {D : va_G} {cI cZ : ClassId} {PX9_pile : Int32 → Int32 → (Nat → Int32) → (Nat → Int32) → Prop} {QX9_pile : Int32 → Int32 → (Nat → Int32) → (Nat → Int32) → Int32 → Prop} {PX9_in : Int64 → Int64 → Int64 → Prop} {QX9_in : Int64 → Int64 → Int64 → Int32 → Prop} {PX9_ones : Int32 → Prop} {QX9_ones : Int32 → Int32 → Prop} {PX9_isPile : Int32 → (Nat → Int32) → (Nat → Int32) → Prop} {QX9_isPile : Int32 → (Nat → Int32) → (Nat → Int32) → Int32 → Prop} (kX9_in : KX9_in l D cI cZ PX9_in QX9_in) (kX9_ones : KX9_ones l D cI cZ PX9_ones QX9_ones) (kX9_isPile : KX9_isPile l D cI cZ PX9_isPile QX9_isPile) (IX9_pile_17 : Int32 → Int32 → (Nat → Int32) → (Nat → Int32) → Nat → Int32 → Int32 → Int32 → Prop) (hvc : ∀ (p0 : Int32) (v_present : Int32) (v_stitches : (Nat → Int32)) (v_wool : (Nat → Int32)), PX9_pile p0 v_present v_stitches v_wool → (PX9_in (p0.toInt64) (0 : Int64) (1 : Int64) ∧ (∀ r_1 : Int32, QX9_in (p0.toInt64) (0 : Int64) (1 : Int64) r_1 → ((¬ r_1 = 0 → ((∃ n0 : Nat, IX9_pile_17 p0 v_present v_stitches v_wool n0 p0 (0 : Int32) (1 : Int32)) ∧ (∀ (n_2 : Nat) (i_3 : Int32) (i_4 : Int32), (IX9_pile_17 p0 v_present v_stitches v_wool n_2 p0 i_4 i_3 → (((1024 : Int32) ≤ i_3 → ((¬ p0 = 0 → (QX9_pile p0 v_present v_stitches v_wool i_4 )) ∧ (p0 = 0 → (PX9_ones i_4 ∧ (∀ r_5 : Int32, QX9_ones i_4 r_5 → (QX9_pile p0 v_present v_stitches v_wool r_5 )))))) ∧ (¬ (1024 : Int32) ≤ i_3 → ((¬ (i_3 &&& (v_present ^^^ (-1 : Int32))) = 0 → (∀ x_6 : Int32, x_6 = (i_3 + (1 : Int32)) → (∃ n1 : Nat, n1 < n_2 ∧ IX9_pile_17 p0 v_present v_stitches v_wool n1 p0 i_4 x_6))) ∧ ((i_3 &&& (v_present ^^^ (-1 : Int32))) = 0 → (PX9_ones i_3 ∧ (∀ r_7 : Int32, QX9_ones i_3 r_7 → (PX9_ones i_4 ∧ (∀ r_8 : Int32, QX9_ones i_4 r_8 → ((r_7 ≤ r_8 → (∀ x_9 : Int32, x_9 = (i_3 + (1 : Int32)) → (∃ n1 : Nat, n1 < n_2 ∧ IX9_pile_17 p0 v_present v_stitches v_wool n1 p0 i_4 x_9))) ∧ (¬ r_7 ≤ r_8 → (PX9_isPile i_3 v_stitches v_wool ∧ (∀ (r_10 : Int32), QX9_isPile i_3 v_stitches v_wool r_10  → ((r_10 = 0 → (∀ x_11 : Int32, x_11 = (i_3 + (1 : Int32)) → (∃ n1 : Nat, n1 < n_2 ∧ IX9_pile_17 p0 v_present v_stitches v_wool n1 p0 i_4 x_11))) ∧ (¬ r_10 = 0 → (∀ x_12 : Int32, x_12 = (i_3 + (1 : Int32)) → (∃ n1 : Nat, n1 < n_2 ∧ IX9_pile_17 p0 v_present v_stitches v_wool n1 p0 i_3 x_12)))))))))))))))))))) ∧ (r_1 = 0 → (QX9_pile p0 v_present v_stitches v_wool (-2 : Int32) )))))) : KX9_pile l D cI cZ PX9_pile QX9_pile := by
  intro sz h_this h_this_wool h_this_stitches h_this_place h_this_sightSundays h_this_sightWool h_this_pad h_this_act h_this_which h_this_much h_this_had h_this_rows h_this_groups h_this_covers h_this_byWool h_this_wins h_this_kept h_this_isKept p0 v_present v_chest v_years v_sights v_padMany v_acts v_sweptMany v_badAct v_badWhy v_sweptAct v_sweptWhich v_keptAt v_isWriting v_stitches v_wool hpre
  have vc := hvc p0 v_present v_stitches v_wool hpre
  clear hvc
  refine Met.ofW (cc := cX9_pile) (maxL := 5) (ret := (some .int)) (by decide) rfl ?_
  intro p e s m args below meth c s₁ B hml hv
  obtain ⟨rfl, hsz, hP, hK, hD0⟩ := hv
  have hx := B.exec
  have hb := B.bytes
  have hr := B.returns
  have hts := atoms_spec (ws := wsX9_pile) B.pre
  have hown : s.vm.findClass RX9 = some m.cls := findClass_of_methodNamed B.named
  have hlocks := B.notSynchronized
  subst hsz
  have hD := hD0.self (sz := s.heap.size)
  generalize hAe : va_A [(h_this, .inr (9, [.int v_present, .ref h_this_wool, .ref h_this_stitches, .ref h_this_place, .int v_chest, .int v_years, .ref h_this_sightSundays, .ref h_this_sightWool, .int v_sights, .ref h_this_pad, .int v_padMany, .ref h_this_act, .ref h_this_which, .ref h_this_much, .int v_acts, .int v_sweptMany, .ref h_this_had, .int v_badAct, .int v_badWhy, .int v_sweptAct, .int v_sweptWhich, .ref h_this_rows, .ref h_this_groups, .ref h_this_covers, .ref h_this_byWool, .ref h_this_wins, .ref h_this_kept, .ref h_this_isKept, .int v_keptAt, .int v_isWriting])), (h_this_stitches, .inl (cI, 10, .inl v_stitches)), (h_this_wool, .inl (cI, 10, .inl v_wool))] s.heap.size = A at hD ⊢
  have hA : ∀ q : Nat, s.heap.size ≤ q → A q := fun q h => by rw [← hAe]; exact Or.inr h
  have hS : va_S A s.heap s.heap [] := va_S.rf
  have hP : va_P D vwCl [(h_this, .inr (9, [.int v_present, .ref h_this_wool, .ref h_this_stitches, .ref h_this_place, .int v_chest, .int v_years, .ref h_this_sightSundays, .ref h_this_sightWool, .int v_sights, .ref h_this_pad, .int v_padMany, .ref h_this_act, .ref h_this_which, .ref h_this_much, .int v_acts, .int v_sweptMany, .ref h_this_had, .int v_badAct, .int v_badWhy, .int v_sweptAct, .int v_sweptWhich, .ref h_this_rows, .ref h_this_groups, .ref h_this_covers, .ref h_this_byWool, .ref h_this_wins, .ref h_this_kept, .ref h_this_isKept, .int v_keptAt, .int v_isWriting])), (h_this_stitches, .inl (cI, 10, .inl v_stitches)), (h_this_wool, .inl (cI, 10, .inl v_wool))] s.heap := hP
  have hl := lv_entry ([.ref h_this, .int p0]) (n := 5) (Nat.le_of_ble_eq_true rfl)
  rw [lg_entry_eq]
  generalize (lg_sl ([.ref h_this, .int p0]) ++ List.replicate (5 - (lg_sl ([.ref h_this, .int p0])).length) Slot.unset).toArray = ls at hl ⊢
  have hl : lv_has ls 5 [(0, .ref h_this), (1, .int p0)] := hl
  refine lv_iload_n hx hb dX9_pile_0 rfl (lv_at hl 1 rfl) ?_
  refine lv_i2l hx hb dX9_pile_1 rfl ?_
  refine lv_lconst (v := (0 : Int64)) hx hb dX9_pile_2 (by decide) ?_
  refine lv_lconst (v := (1 : Int64)) hx hb dX9_pile_3 (by decide) ?_
  refine kj0_i (rest := []) (kS ⟨hx, hb, hml, hown, hts⟩ (kX9_in _ (p0.toInt64) (0 : Int64) (1 : Int64) vc.1) (va_cwS 3 hts gX9_pile_X9_in rfl rfl rfl (by decide +kernel) ⟨(Nat.le_of_ble_eq_true rfl), (Nat.le_of_ble_eq_true rfl)⟩) hK rfl rfl hl.1 (Nat.le_of_ble_eq_true rfl) dX9_pile_4 ⟨(Nat.le_of_ble_eq_true rfl), (Nat.le_of_ble_eq_true rfl)⟩) hP hS hA (fun r_1 H locs hq_ hP hS => ?_)
  replace vc := vc.2 r_1 hq_
  have hP : va_P D vwCl [(h_this, .inr (9, [.int v_present, .ref h_this_wool, .ref h_this_stitches, .ref h_this_place, .int v_chest, .int v_years, .ref h_this_sightSundays, .ref h_this_sightWool, .int v_sights, .ref h_this_pad, .int v_padMany, .ref h_this_act, .ref h_this_which, .ref h_this_much, .int v_acts, .int v_sweptMany, .ref h_this_had, .int v_badAct, .int v_badWhy, .int v_sweptAct, .int v_sweptWhich, .ref h_this_rows, .ref h_this_groups, .ref h_this_covers, .ref h_this_byWool, .ref h_this_wins, .ref h_this_kept, .ref h_this_isKept, .int v_keptAt, .int v_isWriting])), (h_this_stitches, .inl (cI, 10, .inl v_stitches)), (h_this_wool, .inl (cI, 10, .inl v_wool))] H := hP
  refine lv_if_ne (tgt := 13) hx hb dX9_pile_7 (by decide) (fun c_ => ?_) (fun c_ => ?_)
  · replace vc := vc.1 c_
    refine lv_iconst (v := (0 : Int32)) hx hb dX9_pile_13 (by decide) ?_
    refine lv_istore_n (lv' := [(2, .int (0 : Int32)), (0, .ref h_this), (1, .int p0)]) hx hb dX9_pile_14 rfl hl (by decide) rfl (fun ls hl => ?_)
    refine lv_iconst (v := (1 : Int32)) hx hb dX9_pile_15 (by decide) ?_
    refine lv_istore_n (lv' := [(3, .int (1 : Int32)), (2, .int (0 : Int32)), (0, .ref h_this), (1, .int p0)]) hx hb dX9_pile_16 rfl hl (by decide) rfl (fun ls hl => ?_)
    obtain ⟨⟨n0_2, hi0_2⟩, vc⟩ := vc
    refine kloop (V := Int32 × Int32) (I := fun n v => IX9_pile_17 p0 v_present v_stitches v_wool n p0 (v.2) (v.1)) (wv := fun v => [(h_this, .inr (9, [.int v_present, .ref h_this_wool, .ref h_this_stitches, .ref h_this_place, .int v_chest, .int v_years, .ref h_this_sightSundays, .ref h_this_sightWool, .int v_sights, .ref h_this_pad, .int v_padMany, .ref h_this_act, .ref h_this_which, .ref h_this_much, .int v_acts, .int v_sweptMany, .ref h_this_had, .int v_badAct, .int v_badWhy, .int v_sweptAct, .int v_sweptWhich, .ref h_this_rows, .ref h_this_groups, .ref h_this_covers, .ref h_this_byWool, .ref h_this_wins, .ref h_this_kept, .ref h_this_isKept, .int v_keptAt, .int v_isWriting])), (h_this_stitches, .inl (cI, 10, .inl v_stitches)), (h_this_wool, .inl (cI, 10, .inl v_wool))]) (lv := fun v => [(0, .ref h_this), (1, .int p0), (2, .int (v.2)), (3, .int (v.1))]) n0_2 ((1 : Int32), (0 : Int32)) hi0_2 hP hD hS (lv_sub hl [2, 3, 1, 0] rfl) ?_
    intro n_2 v_2 hi_2 ih_2 H locs hP hD hS ls hl
    obtain ⟨i_3, i_4⟩ := v_2
    replace vc := vc n_2 i_3 i_4 hi_2
    have hP : va_P D vwCl [(h_this, .inr (9, [.int v_present, .ref h_this_wool, .ref h_this_stitches, .ref h_this_place, .int v_chest, .int v_years, .ref h_this_sightSundays, .ref h_this_sightWool, .int v_sights, .ref h_this_pad, .int v_padMany, .ref h_this_act, .ref h_this_which, .ref h_this_much, .int v_acts, .int v_sweptMany, .ref h_this_had, .int v_badAct, .int v_badWhy, .int v_sweptAct, .int v_sweptWhich, .ref h_this_rows, .ref h_this_groups, .ref h_this_covers, .ref h_this_byWool, .ref h_this_wins, .ref h_this_kept, .ref h_this_isKept, .int v_keptAt, .int v_isWriting])), (h_this_stitches, .inl (cI, 10, .inl v_stitches)), (h_this_wool, .inl (cI, 10, .inl v_wool))] H := hP
    have hD : va_D A [(h_this, .inr (9, [.int v_present, .ref h_this_wool, .ref h_this_stitches, .ref h_this_place, .int v_chest, .int v_years, .ref h_this_sightSundays, .ref h_this_sightWool, .int v_sights, .ref h_this_pad, .int v_padMany, .ref h_this_act, .ref h_this_which, .ref h_this_much, .int v_acts, .int v_sweptMany, .ref h_this_had, .int v_badAct, .int v_badWhy, .int v_sweptAct, .int v_sweptWhich, .ref h_this_rows, .ref h_this_groups, .ref h_this_covers, .ref h_this_byWool, .ref h_this_wins, .ref h_this_kept, .ref h_this_isKept, .int v_keptAt, .int v_isWriting])), (h_this_stitches, .inl (cI, 10, .inl v_stitches)), (h_this_wool, .inl (cI, 10, .inl v_wool))] := hD
    have hl : lv_has ls 5 [(0, .ref h_this), (1, .int p0), (2, .int i_4), (3, .int i_3)] := hl
    refine lv_iload_n hx hb dX9_pile_17 rfl (lv_at hl 3 rfl) ?_
    refine lv_sipush (v := (1024 : Int32)) hx hb dX9_pile_18 (by decide) ?_
    refine lv_icmp_ge (tgt := 78) hx hb dX9_pile_21 (by decide) (fun c_ => ?_) (fun c_ => ?_)
    · replace vc := vc.1 c_
      refine lv_iload_n hx hb dX9_pile_78 rfl (lv_at hl 1 rfl) ?_
      refine lv_if_ne (tgt := 89) hx hb dX9_pile_79 (by decide) (fun c_ => ?_) (fun c_ => ?_)
      · replace vc := vc.1 c_
        refine lv_iload_n hx hb dX9_pile_89 rfl (lv_at hl 2 rfl) ?_
        exact W.iret (v := i_4) hx hb hr (fun t ht hW => ⟨⟨i_4, (), rfl, vc, QB_mk (hP.sub [0, 1, 2] rfl) (hD.sub [0, 1, 2] rfl rfl) ht⟩, hS.F ht⟩) hS.2.2 dX9_pile_90
      · replace vc := vc.2 c_
        refine lv_iload_n hx hb dX9_pile_82 rfl (lv_at hl 2 rfl) ?_
        refine kj0_i (rest := []) (kS ⟨hx, hb, hml, hown, hts⟩ (kX9_ones _ i_4 vc.1) (va_cwS 1 hts gX9_pile_X9_ones rfl rfl rfl (by decide +kernel) ⟨(Nat.le_of_ble_eq_true rfl), (Nat.le_of_ble_eq_true rfl)⟩) hK rfl rfl hl.1 (Nat.le_of_ble_eq_true rfl) dX9_pile_83 ⟨(Nat.le_of_ble_eq_true rfl), (Nat.le_of_ble_eq_true rfl)⟩) hP hS hA (fun r_5 H locs hq_ hP hS => ?_)
        replace vc := vc.2 r_5 hq_
        have hP : va_P D vwCl [(h_this, .inr (9, [.int v_present, .ref h_this_wool, .ref h_this_stitches, .ref h_this_place, .int v_chest, .int v_years, .ref h_this_sightSundays, .ref h_this_sightWool, .int v_sights, .ref h_this_pad, .int v_padMany, .ref h_this_act, .ref h_this_which, .ref h_this_much, .int v_acts, .int v_sweptMany, .ref h_this_had, .int v_badAct, .int v_badWhy, .int v_sweptAct, .int v_sweptWhich, .ref h_this_rows, .ref h_this_groups, .ref h_this_covers, .ref h_this_byWool, .ref h_this_wins, .ref h_this_kept, .ref h_this_isKept, .int v_keptAt, .int v_isWriting])), (h_this_stitches, .inl (cI, 10, .inl v_stitches)), (h_this_wool, .inl (cI, 10, .inl v_wool))] H := hP
        refine lv_goto (tgt := 90) hx hb dX9_pile_86 (by decide) ?_
        exact W.iret (v := r_5) hx hb hr (fun t ht hW => ⟨⟨r_5, (), rfl, vc, QB_mk (hP.sub [0, 1, 2] rfl) (hD.sub [0, 1, 2] rfl rfl) ht⟩, hS.F ht⟩) hS.2.2 dX9_pile_90
    · replace vc := vc.2 c_
      refine lv_iload_n hx hb dX9_pile_24 rfl (lv_at hl 3 rfl) ?_
      refine lv_aload_n hx hb dX9_pile_25 rfl (lv_at hl 0 rfl) ?_
      refine va_get (D := D) (ci := 9) (v := .int v_present) (C := RX9) (T := TX9) (N := 30) hx hb hts mcX9_pile_X9 hown hK.1 hP 0 rfl rfl 0 (by decide) (hts _ mwX9_pile_1) (fun _ h9 => h9) rfl dX9_pile_26 ?_
      refine lv_iconst (v := (-1 : Int32)) hx hb dX9_pile_29 (by decide) ?_
      refine lv_ixor hx hb dX9_pile_30 ?_
      refine lv_iand hx hb dX9_pile_31 ?_
      refine lv_if_ne (tgt := 50) hx hb dX9_pile_32 (by decide) (fun c_ => ?_) (fun c_ => ?_)
      · replace vc := vc.1 c_
        refine lv_iconst (v := (0 : Int32)) hx hb dX9_pile_50 (by decide) ?_
        refine lv_istore (lv' := [(4, .int (0 : Int32)), (0, .ref h_this), (1, .int p0), (2, .int i_4), (3, .int i_3)]) hx hb dX9_pile_51 hl (by decide) rfl (fun ls hl => ?_)
        refine lv_iload hx hb dX9_pile_53 (lv_at hl 0 rfl) ?_
        refine lv_if_eq (tgt := 70) hx hb dX9_pile_55 (by decide) (fun _ => ?_) (fun c_ => absurd c_ (by decide))
        refine lv_iload_n hx hb dX9_pile_70 rfl (lv_at hl 3 rfl) ?_
        refine lv_istore_n (lv' := [(2, .int i_4), (4, .int (0 : Int32)), (0, .ref h_this), (1, .int p0), (3, .int i_3)]) hx hb dX9_pile_71 rfl hl (by decide) rfl (fun ls hl => ?_)
        obtain ⟨x_6, ex_6⟩ : ∃ y_ : Int32, y_ = (i_3 + (1 : Int32)) := ⟨_, rfl⟩
        replace vc := vc x_6 ex_6
        refine lv_iinc (v := x_6) (lv' := [(3, .int x_6), (2, .int i_4), (4, .int (0 : Int32)), (0, .ref h_this), (1, .int p0)]) hx hb dX9_pile_72 hl (k := 4) rfl (by rw [ex_6]; rfl) (by decide) rfl (fun ls hl => ?_)
        refine lv_goto (tgt := 17) hx hb dX9_pile_75 (by decide) ?_
        obtain ⟨n1_, hlt_, hi_⟩ := vc
        exact ih_2 n1_ (x_6, i_4) hlt_ hi_ _ _ hP hD hS ls (lv_sub hl [3, 4, 1, 0] rfl)
      · replace vc := vc.2 c_
        refine lv_iload_n hx hb dX9_pile_35 rfl (lv_at hl 3 rfl) ?_
        refine kj0_i (rest := []) (kS ⟨hx, hb, hml, hown, hts⟩ (kX9_ones _ i_3 vc.1) (va_cwS 1 hts gX9_pile_X9_ones rfl rfl rfl (by decide +kernel) ⟨(Nat.le_of_ble_eq_true rfl), (Nat.le_of_ble_eq_true rfl)⟩) hK rfl rfl hl.1 (Nat.le_of_ble_eq_true rfl) dX9_pile_36 ⟨(Nat.le_of_ble_eq_true rfl), (Nat.le_of_ble_eq_true rfl)⟩) hP hS hA (fun r_7 H locs hq_ hP hS => ?_)
        replace vc := vc.2 r_7 hq_
        have hP : va_P D vwCl [(h_this, .inr (9, [.int v_present, .ref h_this_wool, .ref h_this_stitches, .ref h_this_place, .int v_chest, .int v_years, .ref h_this_sightSundays, .ref h_this_sightWool, .int v_sights, .ref h_this_pad, .int v_padMany, .ref h_this_act, .ref h_this_which, .ref h_this_much, .int v_acts, .int v_sweptMany, .ref h_this_had, .int v_badAct, .int v_badWhy, .int v_sweptAct, .int v_sweptWhich, .ref h_this_rows, .ref h_this_groups, .ref h_this_covers, .ref h_this_byWool, .ref h_this_wins, .ref h_this_kept, .ref h_this_isKept, .int v_keptAt, .int v_isWriting])), (h_this_stitches, .inl (cI, 10, .inl v_stitches)), (h_this_wool, .inl (cI, 10, .inl v_wool))] H := hP
        refine lv_iload_n hx hb dX9_pile_39 rfl (lv_at hl 2 rfl) ?_
        refine kj0_i (rest := [.int r_7]) (kS ⟨hx, hb, hml, hown, hts⟩ (kX9_ones _ i_4 vc.1) (va_cwS 1 hts gX9_pile_X9_ones rfl rfl rfl (by decide +kernel) ⟨(Nat.le_of_ble_eq_true rfl), (Nat.le_of_ble_eq_true rfl)⟩) hK rfl rfl hl.1 (Nat.le_of_ble_eq_true rfl) dX9_pile_40 ⟨(Nat.le_of_ble_eq_true rfl), (Nat.le_of_ble_eq_true rfl)⟩) hP hS hA (fun r_8 H locs hq_ hP hS => ?_)
        replace vc := vc.2 r_8 hq_
        have hP : va_P D vwCl [(h_this, .inr (9, [.int v_present, .ref h_this_wool, .ref h_this_stitches, .ref h_this_place, .int v_chest, .int v_years, .ref h_this_sightSundays, .ref h_this_sightWool, .int v_sights, .ref h_this_pad, .int v_padMany, .ref h_this_act, .ref h_this_which, .ref h_this_much, .int v_acts, .int v_sweptMany, .ref h_this_had, .int v_badAct, .int v_badWhy, .int v_sweptAct, .int v_sweptWhich, .ref h_this_rows, .ref h_this_groups, .ref h_this_covers, .ref h_this_byWool, .ref h_this_wins, .ref h_this_kept, .ref h_this_isKept, .int v_keptAt, .int v_isWriting])), (h_this_stitches, .inl (cI, 10, .inl v_stitches)), (h_this_wool, .inl (cI, 10, .inl v_wool))] H := hP
        refine lv_icmp_le (tgt := 50) hx hb dX9_pile_43 (by decide) (fun c_ => ?_) (fun c_ => ?_)
        · replace vc := vc.1 c_
          refine lv_iconst (v := (0 : Int32)) hx hb dX9_pile_50 (by decide) ?_
          refine lv_istore (lv' := [(4, .int (0 : Int32)), (0, .ref h_this), (1, .int p0), (2, .int i_4), (3, .int i_3)]) hx hb dX9_pile_51 hl (by decide) rfl (fun ls hl => ?_)
          refine lv_iload hx hb dX9_pile_53 (lv_at hl 0 rfl) ?_
          refine lv_if_eq (tgt := 70) hx hb dX9_pile_55 (by decide) (fun _ => ?_) (fun c_ => absurd c_ (by decide))
          refine lv_iload_n hx hb dX9_pile_70 rfl (lv_at hl 3 rfl) ?_
          refine lv_istore_n (lv' := [(2, .int i_4), (4, .int (0 : Int32)), (0, .ref h_this), (1, .int p0), (3, .int i_3)]) hx hb dX9_pile_71 rfl hl (by decide) rfl (fun ls hl => ?_)
          obtain ⟨x_9, ex_9⟩ : ∃ y_ : Int32, y_ = (i_3 + (1 : Int32)) := ⟨_, rfl⟩
          replace vc := vc x_9 ex_9
          refine lv_iinc (v := x_9) (lv' := [(3, .int x_9), (2, .int i_4), (4, .int (0 : Int32)), (0, .ref h_this), (1, .int p0)]) hx hb dX9_pile_72 hl (k := 4) rfl (by rw [ex_9]; rfl) (by decide) rfl (fun ls hl => ?_)
          refine lv_goto (tgt := 17) hx hb dX9_pile_75 (by decide) ?_
          obtain ⟨n1_, hlt_, hi_⟩ := vc
          exact ih_2 n1_ (x_9, i_4) hlt_ hi_ _ _ hP hD hS ls (lv_sub hl [3, 4, 1, 0] rfl)
        · replace vc := vc.2 c_
          refine lv_iconst (v := (1 : Int32)) hx hb dX9_pile_46 (by decide) ?_
          refine lv_goto (tgt := 51) hx hb dX9_pile_47 (by decide) ?_
          refine lv_istore (lv' := [(4, .int (1 : Int32)), (0, .ref h_this), (1, .int p0), (2, .int i_4), (3, .int i_3)]) hx hb dX9_pile_51 hl (by decide) rfl (fun ls hl => ?_)
          refine lv_iload hx hb dX9_pile_53 (lv_at hl 0 rfl) ?_
          refine lv_if_eq (tgt := 70) hx hb dX9_pile_55 (by decide) (fun c_ => absurd c_ (by decide)) (fun _ => ?_)
          refine lv_aload_n hx hb dX9_pile_58 rfl (lv_at hl 1 rfl) ?_
          refine lv_iload_n hx hb dX9_pile_59 rfl (lv_at hl 4 rfl) ?_
          refine kj_i (wr := []) (rest := []) (kV ⟨hx, hb, hml, hown, hts⟩ (kX9_isPile _ h_this h_this_wool h_this_stitches h_this_place h_this_sightSundays h_this_sightWool h_this_pad h_this_act h_this_which h_this_much h_this_had h_this_rows h_this_groups h_this_covers h_this_byWool h_this_wins h_this_kept h_this_isKept i_3 v_present v_chest v_years v_sights v_padMany v_acts v_sweptMany v_badAct v_badWhy v_sweptAct v_sweptWhich v_keptAt v_isWriting v_stitches v_wool vc.1) (cwV 1 hts gX9_pile_X9_isPile rfl rfl rfl (by decide +kernel) ⟨(Nat.le_of_ble_eq_true rfl), (Nat.le_of_ble_eq_true rfl)⟩) hK hP hD [0, 1, 2] rfl rfl 0 9 rfl rfl rfl rfl rfl hl.1 (Nat.le_of_ble_eq_true rfl) dX9_pile_60 ⟨(Nat.le_of_ble_eq_true rfl), (Nat.le_of_ble_eq_true rfl)⟩) hP hD hS hA [0, 1, 2] [] rfl rfl rfl rfl (fun r_10 u_ H locs hq_ hP hD hS => ?_)
          replace vc := vc.2 r_10  hq_
          have hP : va_P D vwCl [(h_this, .inr (9, [.int v_present, .ref h_this_wool, .ref h_this_stitches, .ref h_this_place, .int v_chest, .int v_years, .ref h_this_sightSundays, .ref h_this_sightWool, .int v_sights, .ref h_this_pad, .int v_padMany, .ref h_this_act, .ref h_this_which, .ref h_this_much, .int v_acts, .int v_sweptMany, .ref h_this_had, .int v_badAct, .int v_badWhy, .int v_sweptAct, .int v_sweptWhich, .ref h_this_rows, .ref h_this_groups, .ref h_this_covers, .ref h_this_byWool, .ref h_this_wins, .ref h_this_kept, .ref h_this_isKept, .int v_keptAt, .int v_isWriting])), (h_this_stitches, .inl (cI, 10, .inl v_stitches)), (h_this_wool, .inl (cI, 10, .inl v_wool))] H := hP
          have hD : va_D A [(h_this, .inr (9, [.int v_present, .ref h_this_wool, .ref h_this_stitches, .ref h_this_place, .int v_chest, .int v_years, .ref h_this_sightSundays, .ref h_this_sightWool, .int v_sights, .ref h_this_pad, .int v_padMany, .ref h_this_act, .ref h_this_which, .ref h_this_much, .int v_acts, .int v_sweptMany, .ref h_this_had, .int v_badAct, .int v_badWhy, .int v_sweptAct, .int v_sweptWhich, .ref h_this_rows, .ref h_this_groups, .ref h_this_covers, .ref h_this_byWool, .ref h_this_wins, .ref h_this_kept, .ref h_this_isKept, .int v_keptAt, .int v_isWriting])), (h_this_stitches, .inl (cI, 10, .inl v_stitches)), (h_this_wool, .inl (cI, 10, .inl v_wool))] := hD
          refine lv_if_eq (tgt := 70) hx hb dX9_pile_63 (by decide) (fun c_ => ?_) (fun c_ => ?_)
          · replace vc := vc.1 c_
            refine lv_iload_n hx hb dX9_pile_70 rfl (lv_at hl 3 rfl) ?_
            refine lv_istore_n (lv' := [(2, .int i_4), (4, .int (1 : Int32)), (0, .ref h_this), (1, .int p0), (3, .int i_3)]) hx hb dX9_pile_71 rfl hl (by decide) rfl (fun ls hl => ?_)
            obtain ⟨x_11, ex_11⟩ : ∃ y_ : Int32, y_ = (i_3 + (1 : Int32)) := ⟨_, rfl⟩
            replace vc := vc x_11 ex_11
            refine lv_iinc (v := x_11) (lv' := [(3, .int x_11), (2, .int i_4), (4, .int (1 : Int32)), (0, .ref h_this), (1, .int p0)]) hx hb dX9_pile_72 hl (k := 4) rfl (by rw [ex_11]; rfl) (by decide) rfl (fun ls hl => ?_)
            refine lv_goto (tgt := 17) hx hb dX9_pile_75 (by decide) ?_
            obtain ⟨n1_, hlt_, hi_⟩ := vc
            exact ih_2 n1_ (x_11, i_4) hlt_ hi_ _ _ hP hD hS ls (lv_sub hl [3, 4, 1, 0] rfl)
          · replace vc := vc.2 c_
            refine lv_iload_n hx hb dX9_pile_66 rfl (lv_at hl 4 rfl) ?_
            refine lv_goto (tgt := 71) hx hb dX9_pile_67 (by decide) ?_
            refine lv_istore_n (lv' := [(2, .int i_3), (4, .int (1 : Int32)), (0, .ref h_this), (1, .int p0), (3, .int i_3)]) hx hb dX9_pile_71 rfl hl (by decide) rfl (fun ls hl => ?_)
            obtain ⟨x_12, ex_12⟩ : ∃ y_ : Int32, y_ = (i_3 + (1 : Int32)) := ⟨_, rfl⟩
            replace vc := vc x_12 ex_12
            refine lv_iinc (v := x_12) (lv' := [(3, .int x_12), (2, .int i_3), (4, .int (1 : Int32)), (0, .ref h_this), (1, .int p0)]) hx hb dX9_pile_72 hl (k := 4) rfl (by rw [ex_12]; rfl) (by decide) rfl (fun ls hl => ?_)
            refine lv_goto (tgt := 17) hx hb dX9_pile_75 (by decide) ?_
            obtain ⟨n1_, hlt_, hi_⟩ := vc
            exact ih_2 n1_ (x_12, i_3) hlt_ hi_ _ _ hP hD hS ls (lv_sub hl [3, 4, 1, 0] rfl)
  · replace vc := vc.2 c_
    refine lv_bipush (v := (-2 : Int32)) hx hb dX9_pile_10 (by decide) ?_
    exact W.iret (v := (-2 : Int32)) hx hb hr (fun t ht hW => ⟨⟨(-2 : Int32), (), rfl, vc, QB_mk (hP.sub [0, 1, 2] rfl) (hD.sub [0, 1, 2] rfl rfl) ht⟩, hS.F ht⟩) hS.2.2 dX9_pile_12

theorem mwX9_felt_1 : Cond.constantLong RX9 239 (60) ∈ wsX9_felt := List.mem_of_getElem? (i := 1) rfl
theorem mwX9_felt_2 : Cond.constantLong RX9 79 (99) ∈ wsX9_felt := List.mem_of_getElem? (i := 2) rfl
theorem mwX9_felt_3 : Cond.fieldLink RX9 241 "HassockSeeModel" "sights" "I" ∈ wsX9_felt := List.mem_of_getElem? (i := 3) rfl
theorem mwX9_felt_4 : Cond.fieldLink RX9 19 "HassockSeeModel" "sightSundays" "[I" ∈ wsX9_felt := List.mem_of_getElem? (i := 4) rfl
theorem mwX9_felt_5 : Cond.fieldLink RX9 22 "HassockSeeModel" "sightWool" "[I" ∈ wsX9_felt := List.mem_of_getElem? (i := 5) rfl
theorem mcX9_felt_X9 : ∀ w ∈ u_ws RX9 TX9 30, w ∈ wsX9_felt := fun _ h => (List.mem_cons_of_mem _ (List.mem_append_right _ h))
def KX9_felt (l : Launch) (D : va_G) (cI cZ : ClassId) (P : Int32 → Int32 → Int32 → (Nat → Int32) → (Nat → Int32) → Prop) (Q : Int32 → Int32 → Int32 → (Nat → Int32) → (Nat → Int32) → Int32 → Int32 → (Nat → Int32) → (Nat → Int32) → Prop) : Prop := ∀ (sz : Nat) (h_this h_this_wool h_this_stitches h_this_place h_this_sightSundays h_this_sightWool h_this_pad h_this_act h_this_which h_this_much h_this_had h_this_rows h_this_groups h_this_covers h_this_byWool h_this_wins h_this_kept h_this_isKept : Nat) (p0 : Int32) (p1 : Int32) (v_present : Int32) (v_chest : Int32) (v_years : Int32) (v_sights : Int32) (v_padMany : Int32) (v_acts : Int32) (v_sweptMany : Int32) (v_badAct : Int32) (v_badWhy : Int32) (v_sweptAct : Int32) (v_sweptWhich : Int32) (v_keptAt : Int32) (v_isWriting : Int32) (v_sightSundays : (Nat → Int32)) (v_sightWool : (Nat → Int32)), P p0 p1 v_sights v_sightSundays v_sightWool → MI l yX9_felt wsX9_felt ({ frames := 1, cells := 0, slots := 0, locals := 25 }) [.ref h_this, .int p0, .int p1] D cI cZ sz [(h_this, .inr (9, [.int v_present, .ref h_this_wool, .ref h_this_stitches, .ref h_this_place, .int v_chest, .int v_years, .ref h_this_sightSundays, .ref h_this_sightWool, .int v_sights, .ref h_this_pad, .int v_padMany, .ref h_this_act, .ref h_this_which, .ref h_this_much, .int v_acts, .int v_sweptMany, .ref h_this_had, .int v_badAct, .int v_badWhy, .int v_sweptAct, .int v_sweptWhich, .ref h_this_rows, .ref h_this_groups, .ref h_this_covers, .ref h_this_byWool, .ref h_this_wins, .ref h_this_kept, .ref h_this_isKept, .int v_keptAt, .int v_isWriting])), (h_this_sightSundays, .inl (cI, 8, .inl v_sightSundays)), (h_this_sightWool, .inl (cI, 8, .inl v_sightWool))] (fun r (u : Int32 × (Nat → Int32) × (Nat → Int32)) => Q p0 p1 v_sights v_sightSundays v_sightWool r (u.1) (u.2.1) (u.2.2)) (fun u => [(h_this, .inr (9, [.int v_present, .ref h_this_wool, .ref h_this_stitches, .ref h_this_place, .int v_chest, .int v_years, .ref h_this_sightSundays, .ref h_this_sightWool, .int (u.1), .ref h_this_pad, .int v_padMany, .ref h_this_act, .ref h_this_which, .ref h_this_much, .int v_acts, .int v_sweptMany, .ref h_this_had, .int v_badAct, .int v_badWhy, .int v_sweptAct, .int v_sweptWhich, .ref h_this_rows, .ref h_this_groups, .ref h_this_covers, .ref h_this_byWool, .ref h_this_wins, .ref h_this_kept, .ref h_this_isKept, .int v_keptAt, .int v_isWriting])), (h_this_sightSundays, .inl (cI, 8, .inl (u.2.1))), (h_this_sightWool, .inl (cI, 8, .inl (u.2.2)))]) 0 0
set_option maxHeartbeats 4000000 in
set_option maxRecDepth 100000 in
theorem walkX9_felt {l : Launch} {D : va_G} {cI cZ : ClassId} {PX9_felt : Int32 → Int32 → Int32 → (Nat → Int32) → (Nat → Int32) → Prop} {QX9_felt : Int32 → Int32 → Int32 → (Nat → Int32) → (Nat → Int32) → Int32 → Int32 → (Nat → Int32) → (Nat → Int32) → Prop} {PX9_in : Int64 → Int64 → Int64 → Prop} {QX9_in : Int64 → Int64 → Int64 → Int32 → Prop} (kX9_in : KX9_in l D cI cZ PX9_in QX9_in) (hvc : ∀ (p0 : Int32) (p1 : Int32) (v_sights : Int32) (v_sightSundays : (Nat → Int32)) (v_sightWool : (Nat → Int32)), PX9_felt p0 p1 v_sights v_sightSundays v_sightWool → (PX9_in (p0.toInt64) (0 : Int64) (60 : Int64) ∧ (∀ r_1 : Int32, QX9_in (p0.toInt64) (0 : Int64) (60 : Int64) r_1 → ((r_1 = 0 → (QX9_felt p0 p1 v_sights v_sightSundays v_sightWool (-2 : Int32) v_sights v_sightSundays v_sightWool)) ∧ (¬ r_1 = 0 → (PX9_in (p1.toInt64) (0 : Int64) (99 : Int64) ∧ (∀ r_2 : Int32, QX9_in (p1.toInt64) (0 : Int64) (99 : Int64) r_2 → ((¬ r_2 = 0 → ((¬ v_sights = (8 : Int32) → (vp_in v_sights 8 ∧ (vp_in v_sights 8 ∧ (∀ x_5 : Int32, x_5 = (v_sights + (1 : Int32)) → (QX9_felt p0 p1 v_sights v_sightSundays v_sightWool x_5 x_5 (upd v_sightSundays (v_sights).toNatClampNeg p0) (upd v_sightWool (v_sights).toNatClampNeg p1)))))) ∧ (v_sights = (8 : Int32) → (QX9_felt p0 p1 v_sights v_sightSundays v_sightWool (-4 : Int32) v_sights v_sightSundays v_sightWool)))) ∧ (r_2 = 0 → (QX9_felt p0 p1 v_sights v_sightSundays v_sightWool (-2 : Int32) v_sights v_sightSundays v_sightWool)))))))))) : KX9_felt l D cI cZ PX9_felt QX9_felt := by
  intro sz h_this h_this_wool h_this_stitches h_this_place h_this_sightSundays h_this_sightWool h_this_pad h_this_act h_this_which h_this_much h_this_had h_this_rows h_this_groups h_this_covers h_this_byWool h_this_wins h_this_kept h_this_isKept p0 p1 v_present v_chest v_years v_sights v_padMany v_acts v_sweptMany v_badAct v_badWhy v_sweptAct v_sweptWhich v_keptAt v_isWriting v_sightSundays v_sightWool hpre
  have vc := hvc p0 p1 v_sights v_sightSundays v_sightWool hpre
  clear hvc
  refine Met.ofW (cc := cX9_felt) (maxL := 3) (ret := (some .int)) (by decide) rfl ?_
  intro p e s m args below meth c s₁ B hml hv
  obtain ⟨rfl, hsz, hP, hK, hD0⟩ := hv
  have hx := B.exec
  have hb := B.bytes
  have hr := B.returns
  have hts := atoms_spec (ws := wsX9_felt) B.pre
  have hown : s.vm.findClass RX9 = some m.cls := findClass_of_methodNamed B.named
  have hlocks := B.notSynchronized
  subst hsz
  have hD := hD0.self (sz := s.heap.size)
  generalize hAe : va_A [(h_this, .inr (9, [.int v_present, .ref h_this_wool, .ref h_this_stitches, .ref h_this_place, .int v_chest, .int v_years, .ref h_this_sightSundays, .ref h_this_sightWool, .int v_sights, .ref h_this_pad, .int v_padMany, .ref h_this_act, .ref h_this_which, .ref h_this_much, .int v_acts, .int v_sweptMany, .ref h_this_had, .int v_badAct, .int v_badWhy, .int v_sweptAct, .int v_sweptWhich, .ref h_this_rows, .ref h_this_groups, .ref h_this_covers, .ref h_this_byWool, .ref h_this_wins, .ref h_this_kept, .ref h_this_isKept, .int v_keptAt, .int v_isWriting])), (h_this_sightSundays, .inl (cI, 8, .inl v_sightSundays)), (h_this_sightWool, .inl (cI, 8, .inl v_sightWool))] s.heap.size = A at hD ⊢
  have hA : ∀ q : Nat, s.heap.size ≤ q → A q := fun q h => by rw [← hAe]; exact Or.inr h
  have hS : va_S A s.heap s.heap [] := va_S.rf
  have hP : va_P D vwCl [(h_this, .inr (9, [.int v_present, .ref h_this_wool, .ref h_this_stitches, .ref h_this_place, .int v_chest, .int v_years, .ref h_this_sightSundays, .ref h_this_sightWool, .int v_sights, .ref h_this_pad, .int v_padMany, .ref h_this_act, .ref h_this_which, .ref h_this_much, .int v_acts, .int v_sweptMany, .ref h_this_had, .int v_badAct, .int v_badWhy, .int v_sweptAct, .int v_sweptWhich, .ref h_this_rows, .ref h_this_groups, .ref h_this_covers, .ref h_this_byWool, .ref h_this_wins, .ref h_this_kept, .ref h_this_isKept, .int v_keptAt, .int v_isWriting])), (h_this_sightSundays, .inl (cI, 8, .inl v_sightSundays)), (h_this_sightWool, .inl (cI, 8, .inl v_sightWool))] s.heap := hP
  have hl := lv_entry ([.ref h_this, .int p0, .int p1]) (n := 3) (Nat.le_of_ble_eq_true rfl)
  rw [lg_entry_eq]
  generalize (lg_sl ([.ref h_this, .int p0, .int p1]) ++ List.replicate (3 - (lg_sl ([.ref h_this, .int p0, .int p1])).length) Slot.unset).toArray = ls at hl ⊢
  have hl : lv_has ls 3 [(0, .ref h_this), (1, .int p0), (2, .int p1)] := hl
  refine lv_iload_n hx hb dX9_felt_0 rfl (lv_at hl 1 rfl) ?_
  refine lv_i2l hx hb dX9_felt_1 rfl ?_
  refine lv_lconst (v := (0 : Int64)) hx hb dX9_felt_2 (by decide) ?_
  refine lv_ldc2 (v := (60 : Int64)) hx hb hown (hts _ mwX9_felt_1) dX9_felt_3 ?_
  refine kj0_i (rest := []) (kS ⟨hx, hb, hml, hown, hts⟩ (kX9_in _ (p0.toInt64) (0 : Int64) (60 : Int64) vc.1) (va_cwS 3 hts gX9_felt_X9_in rfl rfl rfl (by decide +kernel) ⟨(Nat.le_of_ble_eq_true rfl), (Nat.le_of_ble_eq_true rfl)⟩) hK rfl rfl hl.1 (Nat.le_of_ble_eq_true rfl) dX9_felt_6 ⟨(Nat.le_of_ble_eq_true rfl), (Nat.le_of_ble_eq_true rfl)⟩) hP hS hA (fun r_1 H locs hq_ hP hS => ?_)
  replace vc := vc.2 r_1 hq_
  have hP : va_P D vwCl [(h_this, .inr (9, [.int v_present, .ref h_this_wool, .ref h_this_stitches, .ref h_this_place, .int v_chest, .int v_years, .ref h_this_sightSundays, .ref h_this_sightWool, .int v_sights, .ref h_this_pad, .int v_padMany, .ref h_this_act, .ref h_this_which, .ref h_this_much, .int v_acts, .int v_sweptMany, .ref h_this_had, .int v_badAct, .int v_badWhy, .int v_sweptAct, .int v_sweptWhich, .ref h_this_rows, .ref h_this_groups, .ref h_this_covers, .ref h_this_byWool, .ref h_this_wins, .ref h_this_kept, .ref h_this_isKept, .int v_keptAt, .int v_isWriting])), (h_this_sightSundays, .inl (cI, 8, .inl v_sightSundays)), (h_this_sightWool, .inl (cI, 8, .inl v_sightWool))] H := hP
  refine lv_if_eq (tgt := 24) hx hb dX9_felt_9 (by decide) (fun c_ => ?_) (fun c_ => ?_)
  · replace vc := vc.1 c_
    refine lv_bipush (v := (-2 : Int32)) hx hb dX9_felt_24 (by decide) ?_
    exact W.iret (v := (-2 : Int32)) hx hb hr (fun t ht hW => ⟨⟨(-2 : Int32), (v_sights, v_sightSundays, v_sightWool), rfl, vc, QB_mk (hP.sub [0, 1, 2] rfl) (hD.sub [0, 1, 2] rfl rfl) ht⟩, hS.F ht⟩) hS.2.2 dX9_felt_26
  · replace vc := vc.2 c_
    refine lv_iload_n hx hb dX9_felt_12 rfl (lv_at hl 2 rfl) ?_
    refine lv_i2l hx hb dX9_felt_13 rfl ?_
    refine lv_lconst (v := (0 : Int64)) hx hb dX9_felt_14 (by decide) ?_
    refine lv_ldc2 (v := (99 : Int64)) hx hb hown (hts _ mwX9_felt_2) dX9_felt_15 ?_
    refine kj0_i (rest := []) (kS ⟨hx, hb, hml, hown, hts⟩ (kX9_in _ (p1.toInt64) (0 : Int64) (99 : Int64) vc.1) (va_cwS 3 hts gX9_felt_X9_in rfl rfl rfl (by decide +kernel) ⟨(Nat.le_of_ble_eq_true rfl), (Nat.le_of_ble_eq_true rfl)⟩) hK rfl rfl hl.1 (Nat.le_of_ble_eq_true rfl) dX9_felt_18 ⟨(Nat.le_of_ble_eq_true rfl), (Nat.le_of_ble_eq_true rfl)⟩) hP hS hA (fun r_2 H locs hq_ hP hS => ?_)
    replace vc := vc.2 r_2 hq_
    have hP : va_P D vwCl [(h_this, .inr (9, [.int v_present, .ref h_this_wool, .ref h_this_stitches, .ref h_this_place, .int v_chest, .int v_years, .ref h_this_sightSundays, .ref h_this_sightWool, .int v_sights, .ref h_this_pad, .int v_padMany, .ref h_this_act, .ref h_this_which, .ref h_this_much, .int v_acts, .int v_sweptMany, .ref h_this_had, .int v_badAct, .int v_badWhy, .int v_sweptAct, .int v_sweptWhich, .ref h_this_rows, .ref h_this_groups, .ref h_this_covers, .ref h_this_byWool, .ref h_this_wins, .ref h_this_kept, .ref h_this_isKept, .int v_keptAt, .int v_isWriting])), (h_this_sightSundays, .inl (cI, 8, .inl v_sightSundays)), (h_this_sightWool, .inl (cI, 8, .inl v_sightWool))] H := hP
    refine lv_if_ne (tgt := 27) hx hb dX9_felt_21 (by decide) (fun c_ => ?_) (fun c_ => ?_)
    · replace vc := vc.1 c_
      refine lv_aload_n hx hb dX9_felt_27 rfl (lv_at hl 0 rfl) ?_
      refine va_get (D := D) (ci := 9) (v := .int v_sights) (C := RX9) (T := TX9) (N := 30) hx hb hts mcX9_felt_X9 hown hK.1 hP 0 rfl rfl 8 (by decide) (hts _ mwX9_felt_3) (fun _ h9 => h9) rfl dX9_felt_28 ?_
      refine lv_bipush (v := (8 : Int32)) hx hb dX9_felt_31 (by decide) ?_
      refine lv_icmp_ne (tgt := 39) hx hb dX9_felt_33 (by decide) (fun c_ => ?_) (fun c_ => ?_)
      · replace vc := vc.1 c_
        refine lv_aload_n hx hb dX9_felt_39 rfl (lv_at hl 0 rfl) ?_
        refine va_get (D := D) (ci := 9) (v := .ref h_this_sightSundays) (C := RX9) (T := TX9) (N := 30) hx hb hts mcX9_felt_X9 hown hK.1 hP 0 rfl rfl 6 (by decide) (hts _ mwX9_felt_4) (fun _ h9 => h9) rfl dX9_felt_40 ?_
        refine lv_aload_n hx hb dX9_felt_43 rfl (lv_at hl 0 rfl) ?_
        refine va_get (D := D) (ci := 9) (v := .int v_sights) (C := RX9) (T := TX9) (N := 30) hx hb hts mcX9_felt_X9 hown hK.1 hP 0 rfl rfl 8 (by decide) (hts _ mwX9_felt_3) (fun _ h9 => h9) rfl dX9_felt_44 ?_
        refine lv_iload_n hx hb dX9_felt_47 rfl (lv_at hl 1 rfl) ?_
        have hi_3 := vc.1
        replace vc := vc.2
        refine va_iast hx hb hK.1 hP hD hS 1 0 rfl rfl hi_3 dX9_felt_48 (fun H locs hP hD hS => ?_)
        have hP : va_P D vwCl [(h_this, .inr (9, [.int v_present, .ref h_this_wool, .ref h_this_stitches, .ref h_this_place, .int v_chest, .int v_years, .ref h_this_sightSundays, .ref h_this_sightWool, .int v_sights, .ref h_this_pad, .int v_padMany, .ref h_this_act, .ref h_this_which, .ref h_this_much, .int v_acts, .int v_sweptMany, .ref h_this_had, .int v_badAct, .int v_badWhy, .int v_sweptAct, .int v_sweptWhich, .ref h_this_rows, .ref h_this_groups, .ref h_this_covers, .ref h_this_byWool, .ref h_this_wins, .ref h_this_kept, .ref h_this_isKept, .int v_keptAt, .int v_isWriting])), (h_this_sightSundays, .inl (cI, 8, .inl (upd v_sightSundays (v_sights).toNatClampNeg p0))), (h_this_sightWool, .inl (cI, 8, .inl v_sightWool))] H := hP
        have hD : va_D A [(h_this, .inr (9, [.int v_present, .ref h_this_wool, .ref h_this_stitches, .ref h_this_place, .int v_chest, .int v_years, .ref h_this_sightSundays, .ref h_this_sightWool, .int v_sights, .ref h_this_pad, .int v_padMany, .ref h_this_act, .ref h_this_which, .ref h_this_much, .int v_acts, .int v_sweptMany, .ref h_this_had, .int v_badAct, .int v_badWhy, .int v_sweptAct, .int v_sweptWhich, .ref h_this_rows, .ref h_this_groups, .ref h_this_covers, .ref h_this_byWool, .ref h_this_wins, .ref h_this_kept, .ref h_this_isKept, .int v_keptAt, .int v_isWriting])), (h_this_sightSundays, .inl (cI, 8, .inl (upd v_sightSundays (v_sights).toNatClampNeg p0))), (h_this_sightWool, .inl (cI, 8, .inl v_sightWool))] := hD
        refine lv_aload_n hx hb dX9_felt_49 rfl (lv_at hl 0 rfl) ?_
        refine va_get (D := D) (ci := 9) (v := .ref h_this_sightWool) (C := RX9) (T := TX9) (N := 30) hx hb hts mcX9_felt_X9 hown hK.1 hP 0 rfl rfl 7 (by decide) (hts _ mwX9_felt_5) (fun _ h9 => h9) rfl dX9_felt_50 ?_
        refine lv_aload_n hx hb dX9_felt_53 rfl (lv_at hl 0 rfl) ?_
        refine va_get (D := D) (ci := 9) (v := .int v_sights) (C := RX9) (T := TX9) (N := 30) hx hb hts mcX9_felt_X9 hown hK.1 hP 0 rfl rfl 8 (by decide) (hts _ mwX9_felt_3) (fun _ h9 => h9) rfl dX9_felt_54 ?_
        refine lv_iload_n hx hb dX9_felt_57 rfl (lv_at hl 2 rfl) ?_
        have hi_4 := vc.1
        replace vc := vc.2
        refine va_iast hx hb hK.1 hP hD hS 2 0 rfl rfl hi_4 dX9_felt_58 (fun H locs hP hD hS => ?_)
        have hP : va_P D vwCl [(h_this, .inr (9, [.int v_present, .ref h_this_wool, .ref h_this_stitches, .ref h_this_place, .int v_chest, .int v_years, .ref h_this_sightSundays, .ref h_this_sightWool, .int v_sights, .ref h_this_pad, .int v_padMany, .ref h_this_act, .ref h_this_which, .ref h_this_much, .int v_acts, .int v_sweptMany, .ref h_this_had, .int v_badAct, .int v_badWhy, .int v_sweptAct, .int v_sweptWhich, .ref h_this_rows, .ref h_this_groups, .ref h_this_covers, .ref h_this_byWool, .ref h_this_wins, .ref h_this_kept, .ref h_this_isKept, .int v_keptAt, .int v_isWriting])), (h_this_sightSundays, .inl (cI, 8, .inl (upd v_sightSundays (v_sights).toNatClampNeg p0))), (h_this_sightWool, .inl (cI, 8, .inl (upd v_sightWool (v_sights).toNatClampNeg p1)))] H := hP
        have hD : va_D A [(h_this, .inr (9, [.int v_present, .ref h_this_wool, .ref h_this_stitches, .ref h_this_place, .int v_chest, .int v_years, .ref h_this_sightSundays, .ref h_this_sightWool, .int v_sights, .ref h_this_pad, .int v_padMany, .ref h_this_act, .ref h_this_which, .ref h_this_much, .int v_acts, .int v_sweptMany, .ref h_this_had, .int v_badAct, .int v_badWhy, .int v_sweptAct, .int v_sweptWhich, .ref h_this_rows, .ref h_this_groups, .ref h_this_covers, .ref h_this_byWool, .ref h_this_wins, .ref h_this_kept, .ref h_this_isKept, .int v_keptAt, .int v_isWriting])), (h_this_sightSundays, .inl (cI, 8, .inl (upd v_sightSundays (v_sights).toNatClampNeg p0))), (h_this_sightWool, .inl (cI, 8, .inl (upd v_sightWool (v_sights).toNatClampNeg p1)))] := hD
        refine lv_aload_n hx hb dX9_felt_59 rfl (lv_at hl 0 rfl) ?_
        refine lv_dup hx hb dX9_felt_60 rfl ?_
        refine va_get (D := D) (ci := 9) (v := .int v_sights) (C := RX9) (T := TX9) (N := 30) hx hb hts mcX9_felt_X9 hown hK.1 hP 0 rfl rfl 8 (by decide) (hts _ mwX9_felt_3) (fun _ h9 => h9) rfl dX9_felt_61 ?_
        refine lv_iconst (v := (1 : Int32)) hx hb dX9_felt_64 (by decide) ?_
        refine lv_iadd hx hb dX9_felt_65 ?_
        refine lv_topi (fun x_5 ex_5 => ?_)
        replace vc := vc x_5 ex_5
        refine va_put (D := D) (ci := 9) (v := .int x_5) (ty := .int) (C := RX9) (T := TX9) (N := 30) hx hb hts mcX9_felt_X9 tyX9 tyX9_ok nmX9 hown hK.1 hP hD hS 0 rfl rfl 8 (by decide) (hts _ mwX9_felt_3) (fun _ h9 => h9) rfl (by decide +kernel) rfl rfl (Nat.le_of_ble_eq_true rfl) dX9_felt_66 (fun H locs hP hD hS => ?_)
        have hP : va_P D vwCl [(h_this, .inr (9, [.int v_present, .ref h_this_wool, .ref h_this_stitches, .ref h_this_place, .int v_chest, .int v_years, .ref h_this_sightSundays, .ref h_this_sightWool, .int x_5, .ref h_this_pad, .int v_padMany, .ref h_this_act, .ref h_this_which, .ref h_this_much, .int v_acts, .int v_sweptMany, .ref h_this_had, .int v_badAct, .int v_badWhy, .int v_sweptAct, .int v_sweptWhich, .ref h_this_rows, .ref h_this_groups, .ref h_this_covers, .ref h_this_byWool, .ref h_this_wins, .ref h_this_kept, .ref h_this_isKept, .int v_keptAt, .int v_isWriting])), (h_this_sightSundays, .inl (cI, 8, .inl (upd v_sightSundays (v_sights).toNatClampNeg p0))), (h_this_sightWool, .inl (cI, 8, .inl (upd v_sightWool (v_sights).toNatClampNeg p1)))] H := hP
        have hD : va_D A [(h_this, .inr (9, [.int v_present, .ref h_this_wool, .ref h_this_stitches, .ref h_this_place, .int v_chest, .int v_years, .ref h_this_sightSundays, .ref h_this_sightWool, .int x_5, .ref h_this_pad, .int v_padMany, .ref h_this_act, .ref h_this_which, .ref h_this_much, .int v_acts, .int v_sweptMany, .ref h_this_had, .int v_badAct, .int v_badWhy, .int v_sweptAct, .int v_sweptWhich, .ref h_this_rows, .ref h_this_groups, .ref h_this_covers, .ref h_this_byWool, .ref h_this_wins, .ref h_this_kept, .ref h_this_isKept, .int v_keptAt, .int v_isWriting])), (h_this_sightSundays, .inl (cI, 8, .inl (upd v_sightSundays (v_sights).toNatClampNeg p0))), (h_this_sightWool, .inl (cI, 8, .inl (upd v_sightWool (v_sights).toNatClampNeg p1)))] := hD
        refine lv_aload_n hx hb dX9_felt_69 rfl (lv_at hl 0 rfl) ?_
        refine va_get (D := D) (ci := 9) (v := .int x_5) (C := RX9) (T := TX9) (N := 30) hx hb hts mcX9_felt_X9 hown hK.1 hP 0 rfl rfl 8 (by decide) (hts _ mwX9_felt_3) (fun _ h9 => h9) rfl dX9_felt_70 ?_
        exact W.iret (v := x_5) hx hb hr (fun t ht hW => ⟨⟨x_5, (x_5, (upd v_sightSundays (v_sights).toNatClampNeg p0), (upd v_sightWool (v_sights).toNatClampNeg p1)), rfl, vc, QB_mk (hP.sub [0, 1, 2] rfl) (hD.sub [0, 1, 2] rfl rfl) ht⟩, hS.F ht⟩) hS.2.2 dX9_felt_73
      · replace vc := vc.2 c_
        refine lv_bipush (v := (-4 : Int32)) hx hb dX9_felt_36 (by decide) ?_
        exact W.iret (v := (-4 : Int32)) hx hb hr (fun t ht hW => ⟨⟨(-4 : Int32), (v_sights, v_sightSundays, v_sightWool), rfl, vc, QB_mk (hP.sub [0, 1, 2] rfl) (hD.sub [0, 1, 2] rfl rfl) ht⟩, hS.F ht⟩) hS.2.2 dX9_felt_38
    · replace vc := vc.2 c_
      refine lv_bipush (v := (-2 : Int32)) hx hb dX9_felt_24 (by decide) ?_
      exact W.iret (v := (-2 : Int32)) hx hb hr (fun t ht hW => ⟨⟨(-2 : Int32), (v_sights, v_sightSundays, v_sightWool), rfl, vc, QB_mk (hP.sub [0, 1, 2] rfl) (hD.sub [0, 1, 2] rfl rfl) ht⟩, hS.F ht⟩) hS.2.2 dX9_felt_26

theorem mwX9_forget_1 : Cond.fieldLink RX9 241 "HassockSeeModel" "sights" "I" ∈ wsX9_forget := List.mem_of_getElem? (i := 1) rfl
theorem mcX9_forget_X9 : ∀ w ∈ u_ws RX9 TX9 30, w ∈ wsX9_forget := fun _ h => (List.mem_cons_of_mem _ (List.mem_append_right _ h))
def KX9_forget (l : Launch) (D : va_G) (cI cZ : ClassId) (P : Int32 → Prop) (Q : Int32 → Int32 → Int32 → Prop) : Prop := ∀ (sz : Nat) (h_this h_this_wool h_this_stitches h_this_place h_this_sightSundays h_this_sightWool h_this_pad h_this_act h_this_which h_this_much h_this_had h_this_rows h_this_groups h_this_covers h_this_byWool h_this_wins h_this_kept h_this_isKept : Nat) (v_present : Int32) (v_chest : Int32) (v_years : Int32) (v_sights : Int32) (v_padMany : Int32) (v_acts : Int32) (v_sweptMany : Int32) (v_badAct : Int32) (v_badWhy : Int32) (v_sweptAct : Int32) (v_sweptWhich : Int32) (v_keptAt : Int32) (v_isWriting : Int32), P v_sights → MI l yX9_forget wsX9_forget ({ frames := 0, cells := 0, slots := 0, locals := 0 }) [.ref h_this] D cI cZ sz [(h_this, .inr (9, [.int v_present, .ref h_this_wool, .ref h_this_stitches, .ref h_this_place, .int v_chest, .int v_years, .ref h_this_sightSundays, .ref h_this_sightWool, .int v_sights, .ref h_this_pad, .int v_padMany, .ref h_this_act, .ref h_this_which, .ref h_this_much, .int v_acts, .int v_sweptMany, .ref h_this_had, .int v_badAct, .int v_badWhy, .int v_sweptAct, .int v_sweptWhich, .ref h_this_rows, .ref h_this_groups, .ref h_this_covers, .ref h_this_byWool, .ref h_this_wins, .ref h_this_kept, .ref h_this_isKept, .int v_keptAt, .int v_isWriting]))] (fun r (u : Int32) => Q v_sights r u) (fun u => [(h_this, .inr (9, [.int v_present, .ref h_this_wool, .ref h_this_stitches, .ref h_this_place, .int v_chest, .int v_years, .ref h_this_sightSundays, .ref h_this_sightWool, .int u, .ref h_this_pad, .int v_padMany, .ref h_this_act, .ref h_this_which, .ref h_this_much, .int v_acts, .int v_sweptMany, .ref h_this_had, .int v_badAct, .int v_badWhy, .int v_sweptAct, .int v_sweptWhich, .ref h_this_rows, .ref h_this_groups, .ref h_this_covers, .ref h_this_byWool, .ref h_this_wins, .ref h_this_kept, .ref h_this_isKept, .int v_keptAt, .int v_isWriting]))]) 0 0
set_option maxHeartbeats 4000000 in
set_option maxRecDepth 100000 in
theorem walkX9_forget {l : Launch} {D : va_G} {cI cZ : ClassId} {PX9_forget : Int32 → Prop} {QX9_forget : Int32 → Int32 → Int32 → Prop}  (hvc : ∀ (v_sights : Int32), PX9_forget v_sights → (QX9_forget v_sights v_sights (0 : Int32))) : KX9_forget l D cI cZ PX9_forget QX9_forget := by
  intro sz h_this h_this_wool h_this_stitches h_this_place h_this_sightSundays h_this_sightWool h_this_pad h_this_act h_this_which h_this_much h_this_had h_this_rows h_this_groups h_this_covers h_this_byWool h_this_wins h_this_kept h_this_isKept v_present v_chest v_years v_sights v_padMany v_acts v_sweptMany v_badAct v_badWhy v_sweptAct v_sweptWhich v_keptAt v_isWriting hpre
  have vc := hvc v_sights hpre
  clear hvc
  refine Met.ofW (cc := cX9_forget) (maxL := 2) (ret := (some .int)) (by decide) rfl ?_
  intro p e s m args below meth c s₁ B hml hv
  obtain ⟨rfl, hsz, hP, hK, hD0⟩ := hv
  have hx := B.exec
  have hb := B.bytes
  have hr := B.returns
  have hts := atoms_spec (ws := wsX9_forget) B.pre
  have hown : s.vm.findClass RX9 = some m.cls := findClass_of_methodNamed B.named
  have hlocks := B.notSynchronized
  subst hsz
  have hD := hD0.self (sz := s.heap.size)
  generalize hAe : va_A [(h_this, .inr (9, [.int v_present, .ref h_this_wool, .ref h_this_stitches, .ref h_this_place, .int v_chest, .int v_years, .ref h_this_sightSundays, .ref h_this_sightWool, .int v_sights, .ref h_this_pad, .int v_padMany, .ref h_this_act, .ref h_this_which, .ref h_this_much, .int v_acts, .int v_sweptMany, .ref h_this_had, .int v_badAct, .int v_badWhy, .int v_sweptAct, .int v_sweptWhich, .ref h_this_rows, .ref h_this_groups, .ref h_this_covers, .ref h_this_byWool, .ref h_this_wins, .ref h_this_kept, .ref h_this_isKept, .int v_keptAt, .int v_isWriting]))] s.heap.size = A at hD ⊢
  have hA : ∀ q : Nat, s.heap.size ≤ q → A q := fun q h => by rw [← hAe]; exact Or.inr h
  have hS : va_S A s.heap s.heap [] := va_S.rf
  have hP : va_P D vwCl [(h_this, .inr (9, [.int v_present, .ref h_this_wool, .ref h_this_stitches, .ref h_this_place, .int v_chest, .int v_years, .ref h_this_sightSundays, .ref h_this_sightWool, .int v_sights, .ref h_this_pad, .int v_padMany, .ref h_this_act, .ref h_this_which, .ref h_this_much, .int v_acts, .int v_sweptMany, .ref h_this_had, .int v_badAct, .int v_badWhy, .int v_sweptAct, .int v_sweptWhich, .ref h_this_rows, .ref h_this_groups, .ref h_this_covers, .ref h_this_byWool, .ref h_this_wins, .ref h_this_kept, .ref h_this_isKept, .int v_keptAt, .int v_isWriting]))] s.heap := hP
  have hl := lv_entry ([.ref h_this]) (n := 2) (Nat.le_of_ble_eq_true rfl)
  rw [lg_entry_eq]
  generalize (lg_sl ([.ref h_this]) ++ List.replicate (2 - (lg_sl ([.ref h_this])).length) Slot.unset).toArray = ls at hl ⊢
  have hl : lv_has ls 2 [(0, .ref h_this)] := hl
  refine lv_aload_n hx hb dX9_forget_0 rfl (lv_at hl 0 rfl) ?_
  refine va_get (D := D) (ci := 9) (v := .int v_sights) (C := RX9) (T := TX9) (N := 30) hx hb hts mcX9_forget_X9 hown hK.1 hP 0 rfl rfl 8 (by decide) (hts _ mwX9_forget_1) (fun _ h9 => h9) rfl dX9_forget_1 ?_
  refine lv_istore_n (lv' := [(1, .int v_sights), (0, .ref h_this)]) hx hb dX9_forget_4 rfl hl (by decide) rfl (fun ls hl => ?_)
  refine lv_aload_n hx hb dX9_forget_5 rfl (lv_at hl 1 rfl) ?_
  refine lv_iconst (v := (0 : Int32)) hx hb dX9_forget_6 (by decide) ?_
  refine va_put (D := D) (ci := 9) (v := .int (0 : Int32)) (ty := .int) (C := RX9) (T := TX9) (N := 30) hx hb hts mcX9_forget_X9 tyX9 tyX9_ok nmX9 hown hK.1 hP hD hS 0 rfl rfl 8 (by decide) (hts _ mwX9_forget_1) (fun _ h9 => h9) rfl (by decide +kernel) rfl rfl (Nat.le_of_ble_eq_true rfl) dX9_forget_7 (fun H locs hP hD hS => ?_)
  have hP : va_P D vwCl [(h_this, .inr (9, [.int v_present, .ref h_this_wool, .ref h_this_stitches, .ref h_this_place, .int v_chest, .int v_years, .ref h_this_sightSundays, .ref h_this_sightWool, .int (0 : Int32), .ref h_this_pad, .int v_padMany, .ref h_this_act, .ref h_this_which, .ref h_this_much, .int v_acts, .int v_sweptMany, .ref h_this_had, .int v_badAct, .int v_badWhy, .int v_sweptAct, .int v_sweptWhich, .ref h_this_rows, .ref h_this_groups, .ref h_this_covers, .ref h_this_byWool, .ref h_this_wins, .ref h_this_kept, .ref h_this_isKept, .int v_keptAt, .int v_isWriting]))] H := hP
  have hD : va_D A [(h_this, .inr (9, [.int v_present, .ref h_this_wool, .ref h_this_stitches, .ref h_this_place, .int v_chest, .int v_years, .ref h_this_sightSundays, .ref h_this_sightWool, .int (0 : Int32), .ref h_this_pad, .int v_padMany, .ref h_this_act, .ref h_this_which, .ref h_this_much, .int v_acts, .int v_sweptMany, .ref h_this_had, .int v_badAct, .int v_badWhy, .int v_sweptAct, .int v_sweptWhich, .ref h_this_rows, .ref h_this_groups, .ref h_this_covers, .ref h_this_byWool, .ref h_this_wins, .ref h_this_kept, .ref h_this_isKept, .int v_keptAt, .int v_isWriting]))] := hD
  refine lv_iload_n hx hb dX9_forget_10 rfl (lv_at hl 0 rfl) ?_
  exact W.iret (v := v_sights) hx hb hr (fun t ht hW => ⟨⟨v_sights, ((0 : Int32)), rfl, vc, QB_mk (hP.sub [0] rfl) (hD.sub [0] rfl rfl) ht⟩, hS.F ht⟩) hS.2.2 dX9_forget_11

def KX9_woolBy (l : Launch) (D : va_G) (cI cZ : ClassId) (P : Int32 → Int32 → Prop) (Q : Int32 → Int32 → Int32 → Prop) : Prop := ∀ (sz : Nat) (p0 : Int32) (p1 : Int32), P p0 p1 → MI l yX9_woolBy wsX9_woolBy ({ frames := 0, cells := 0, slots := 0, locals := 0 }) [.int p0, .int p1] D cI cZ sz [] (fun r (u : Unit) => Q p0 p1 r ) (fun u => []) 0 0
set_option maxHeartbeats 4000000 in
set_option maxRecDepth 100000 in
theorem walkX9_woolBy {l : Launch} {D : va_G} {cI cZ : ClassId} {PX9_woolBy : Int32 → Int32 → Prop} {QX9_woolBy : Int32 → Int32 → Int32 → Prop}  (hvc : ∀ (p0 : Int32) (p1 : Int32), PX9_woolBy p0 p1 → (∀ x_1 : Int32, x_1 = (((99 : Int32) - (p1 * (p0 / (10 : Int32)))) - ((p0 - p0 / (10 : Int32) * (10 : Int32)) * (p1 / (4 : Int32)))) → ((0 ≤ x_1 → (QX9_woolBy p0 p1 x_1 )) ∧ (¬ 0 ≤ x_1 → (QX9_woolBy p0 p1 (0 : Int32) ))))) : KX9_woolBy l D cI cZ PX9_woolBy QX9_woolBy := by
  intro sz  p0 p1 hpre
  have vc := hvc p0 p1 hpre
  clear hvc
  refine Met.ofW (cc := cX9_woolBy) (maxL := 3) (ret := (some .int)) (by decide) rfl ?_
  intro p e s m args below meth c s₁ B hml hv
  obtain ⟨rfl, hsz, hP, hK, hD0⟩ := hv
  have hx := B.exec
  have hb := B.bytes
  have hr := B.returns
  have hts := atoms_spec (ws := wsX9_woolBy) B.pre
  have hown : s.vm.findClass RX9 = some m.cls := findClass_of_methodNamed B.named
  have hlocks := B.notSynchronized
  subst hsz
  have hD := hD0.self (sz := s.heap.size)
  generalize hAe : va_A [] s.heap.size = A at hD ⊢
  have hA : ∀ q : Nat, s.heap.size ≤ q → A q := fun q h => by rw [← hAe]; exact Or.inr h
  have hS : va_S A s.heap s.heap [] := va_S.rf
  have hP : va_P D vwCl [] s.heap := hP
  have hl := lv_entry ([.int p0, .int p1]) (n := 3) (Nat.le_of_ble_eq_true rfl)
  rw [lg_entry_eq]
  generalize (lg_sl ([.int p0, .int p1]) ++ List.replicate (3 - (lg_sl ([.int p0, .int p1])).length) Slot.unset).toArray = ls at hl ⊢
  have hl : lv_has ls 3 [(0, .int p0), (1, .int p1)] := hl
  refine lv_bipush (v := (99 : Int32)) hx hb dX9_woolBy_0 (by decide) ?_
  refine lv_iload_n hx hb dX9_woolBy_2 rfl (lv_at hl 1 rfl) ?_
  refine lv_iload_n hx hb dX9_woolBy_3 rfl (lv_at hl 0 rfl) ?_
  refine lv_bipush (v := (10 : Int32)) hx hb dX9_woolBy_4 (by decide) ?_
  refine lv_idiv hx hb dX9_woolBy_6 (by decide) ?_
  refine lv_imul hx hb dX9_woolBy_7 ?_
  refine lv_isub hx hb dX9_woolBy_8 ?_
  refine lv_iload_n hx hb dX9_woolBy_9 rfl (lv_at hl 0 rfl) ?_
  refine lv_bipush (v := (10 : Int32)) hx hb dX9_woolBy_10 (by decide) ?_
  refine lv_irem hx hb dX9_woolBy_12 (by decide) ?_
  refine lv_iload_n hx hb dX9_woolBy_13 rfl (lv_at hl 1 rfl) ?_
  refine lv_iconst (v := (4 : Int32)) hx hb dX9_woolBy_14 (by decide) ?_
  refine lv_idiv hx hb dX9_woolBy_15 (by decide) ?_
  refine lv_imul hx hb dX9_woolBy_16 ?_
  refine lv_isub hx hb dX9_woolBy_17 ?_
  refine lv_topi (fun x_1 ex_1 => ?_)
  replace vc := vc x_1 ex_1
  refine lv_istore_n (lv' := [(2, .int x_1), (0, .int p0), (1, .int p1)]) hx hb dX9_woolBy_18 rfl hl (by decide) rfl (fun ls hl => ?_)
  refine lv_iload_n hx hb dX9_woolBy_19 rfl (lv_at hl 0 rfl) ?_
  refine lv_if_ge (tgt := 27) hx hb dX9_woolBy_20 (by decide) (fun c_ => ?_) (fun c_ => ?_)
  · replace vc := vc.1 c_
    refine lv_iload_n hx hb dX9_woolBy_27 rfl (lv_at hl 0 rfl) ?_
    exact W.iret (v := x_1) hx hb hr (fun t ht hW => ⟨⟨x_1, (), rfl, vc, QB_mk (hP.sub [] rfl) (hD.sub [] rfl rfl) ht⟩, hS.F ht⟩) hS.2.2 dX9_woolBy_28
  · replace vc := vc.2 c_
    refine lv_iconst (v := (0 : Int32)) hx hb dX9_woolBy_23 (by decide) ?_
    refine lv_goto (tgt := 28) hx hb dX9_woolBy_24 (by decide) ?_
    exact W.iret (v := (0 : Int32)) hx hb hr (fun t ht hW => ⟨⟨(0 : Int32), (), rfl, vc, QB_mk (hP.sub [] rfl) (hD.sub [] rfl rfl) ht⟩, hS.F ht⟩) hS.2.2 dX9_woolBy_28
