def KX9_in (l : Launch) (D : va_G) (cI cZ : ClassId) (P : Int64 → Int64 → Int64 → Prop) (Q : Int64 → Int64 → Int64 → Int32 → Prop) : Prop := ∀ (sz : Nat) (p0 : Int64) (p1 : Int64) (p2 : Int64), P p0 p1 p2 → MI l yX9_in wsX9_in ({ frames := 0, cells := 0, slots := 0, locals := 0 }) [.long p0, .long p1, .long p2] D cI cZ sz [] (fun r (u : Unit) => Q p0 p1 p2 r ) (fun u => []) 0 0
set_option maxHeartbeats 4000000 in
set_option maxRecDepth 100000 in
theorem walkX9_in {l : Launch} {D : va_G} {cI cZ : ClassId} {PX9_in : Int64 → Int64 → Int64 → Prop} {QX9_in : Int64 → Int64 → Int64 → Int32 → Prop}  (hvc : ∀ (p0 : Int64) (p1 : Int64) (p2 : Int64), PX9_in p0 p1 p2 → (((lg_cmp p0 p1) < 0 → (QX9_in p0 p1 p2 (0 : Int32) )) ∧ (¬ (lg_cmp p0 p1) < 0 → ((0 < (lg_cmp p0 p2) → (QX9_in p0 p1 p2 (0 : Int32) )) ∧ (¬ 0 < (lg_cmp p0 p2) → (QX9_in p0 p1 p2 (1 : Int32) )))))) : KX9_in l D cI cZ PX9_in QX9_in := by
  intro sz  p0 p1 p2 hpre
  have vc := hvc p0 p1 p2 hpre
  clear hvc
  refine Met.ofW (cc := cX9_in) (maxL := 6) (ret := (some .boolean)) (by decide) rfl ?_
  intro p e s m args below meth c s₁ B hml hv
  obtain ⟨rfl, hsz, hP, hK, hD0⟩ := hv
  have hx := B.exec
  have hb := B.bytes
  have hr := B.returns
  have hts := atoms_spec (ws := wsX9_in) B.pre
  have hown : s.vm.findClass RX9 = some m.cls := findClass_of_methodNamed B.named
  have hlocks := B.notSynchronized
  subst hsz
  have hD := hD0.self (sz := s.heap.size)
  generalize hAe : va_A [] s.heap.size = A at hD ⊢
  have hA : ∀ q : Nat, s.heap.size ≤ q → A q := fun q h => by rw [← hAe]; exact Or.inr h
  have hS : va_S A s.heap s.heap [] := va_S.rf
  have hP : va_P D vwCl [] s.heap := hP
  have hl := lv_entry ([.long p0, .long p1, .long p2]) (n := 6) (Nat.le_of_ble_eq_true rfl)
  rw [lg_entry_eq]
  generalize (lg_sl ([.long p0, .long p1, .long p2]) ++ List.replicate (6 - (lg_sl ([.long p0, .long p1, .long p2])).length) Slot.unset).toArray = ls at hl ⊢
  have hl : lv_has ls 6 [(0, .long p0), (2, .long p1), (4, .long p2)] := hl
  refine lv_lload_n hx hb dX9_in_0 rfl (lv_at hl 0 rfl) ?_
  refine lv_lload_n hx hb dX9_in_1 rfl (lv_at hl 1 rfl) ?_
  refine W.lcmp hx hb dX9_in_2 ?_
  refine lv_if_lt (tgt := 17) hx hb dX9_in_3 (by decide) (fun c_ => ?_) (fun c_ => ?_)
  · replace vc := vc.1 c_
    refine lv_iconst (v := (0 : Int32)) hx hb dX9_in_17 (by decide) ?_
    exact W.zret (v := (0 : Int32)) hx hb hr rfl (fun t ht hW => ⟨⟨(0 : Int32), (), rfl, vc, QB_mk (hP.sub [] rfl) (hD.sub [] rfl rfl) ht⟩, hS.F ht⟩) hS.2.2 dX9_in_18
  · replace vc := vc.2 c_
    refine lv_lload_n hx hb dX9_in_6 rfl (lv_at hl 0 rfl) ?_
    refine lv_lload hx hb dX9_in_7 (lv_at hl 2 rfl) ?_
    refine W.lcmp hx hb dX9_in_9 ?_
    refine lv_if_gt (tgt := 17) hx hb dX9_in_10 (by decide) (fun c_ => ?_) (fun c_ => ?_)
    · replace vc := vc.1 c_
      refine lv_iconst (v := (0 : Int32)) hx hb dX9_in_17 (by decide) ?_
      exact W.zret (v := (0 : Int32)) hx hb hr rfl (fun t ht hW => ⟨⟨(0 : Int32), (), rfl, vc, QB_mk (hP.sub [] rfl) (hD.sub [] rfl rfl) ht⟩, hS.F ht⟩) hS.2.2 dX9_in_18
    · replace vc := vc.2 c_
      refine lv_iconst (v := (1 : Int32)) hx hb dX9_in_13 (by decide) ?_
      refine lv_goto (tgt := 18) hx hb dX9_in_14 (by decide) ?_
      exact W.zret (v := (1 : Int32)) hx hb hr rfl (fun t ht hW => ⟨⟨(1 : Int32), (), rfl, vc, QB_mk (hP.sub [] rfl) (hD.sub [] rfl rfl) ht⟩, hS.F ht⟩) hS.2.2 dX9_in_18

def KX9_ones (l : Launch) (D : va_G) (cI cZ : ClassId) (P : Int32 → Prop) (Q : Int32 → Int32 → Prop) : Prop := ∀ (sz : Nat) (p0 : Int32), P p0 → MI l yX9_ones wsX9_ones ({ frames := 0, cells := 0, slots := 0, locals := 0 }) [.int p0] D cI cZ sz [] (fun r (u : Unit) => Q p0 r ) (fun u => []) 0 0
set_option maxHeartbeats 4000000 in
set_option maxRecDepth 100000 in
theorem walkX9_ones {l : Launch} {D : va_G} {cI cZ : ClassId} {PX9_ones : Int32 → Prop} {QX9_ones : Int32 → Int32 → Prop} (IX9_ones_4 : Int32 → Nat → Int32 → Int32 → Prop) (hvc : ∀ (p0 : Int32), PX9_ones p0 → ((∃ n0 : Nat, IX9_ones_4 p0 n0 (0 : Int32) p0) ∧ (∀ (n_1 : Nat) (i_2 : Int32) (i_3 : Int32), (IX9_ones_4 p0 n_1 i_2 i_3 → ((i_3 = 0 → (QX9_ones p0 i_2 )) ∧ (¬ i_3 = 0 → (∀ x_4 : Int32, x_4 = (i_2 + (1 : Int32)) → (∀ x_5 : Int32, x_5 = (i_3 &&& (i_3 - (1 : Int32))) → (∃ n1 : Nat, n1 < n_1 ∧ IX9_ones_4 p0 n1 x_4 x_5))))))))) : KX9_ones l D cI cZ PX9_ones QX9_ones := by
  intro sz  p0 hpre
  have vc := hvc p0 hpre
  clear hvc
  refine Met.ofW (cc := cX9_ones) (maxL := 3) (ret := (some .int)) (by decide) rfl ?_
  intro p e s m args below meth c s₁ B hml hv
  obtain ⟨rfl, hsz, hP, hK, hD0⟩ := hv
  have hx := B.exec
  have hb := B.bytes
  have hr := B.returns
  have hts := atoms_spec (ws := wsX9_ones) B.pre
  have hown : s.vm.findClass RX9 = some m.cls := findClass_of_methodNamed B.named
  have hlocks := B.notSynchronized
  subst hsz
  have hD := hD0.self (sz := s.heap.size)
  generalize hAe : va_A [] s.heap.size = A at hD ⊢
  have hA : ∀ q : Nat, s.heap.size ≤ q → A q := fun q h => by rw [← hAe]; exact Or.inr h
  have hS : va_S A s.heap s.heap [] := va_S.rf
  have hP : va_P D vwCl [] s.heap := hP
  have hl := lv_entry ([.int p0]) (n := 3) (Nat.le_of_ble_eq_true rfl)
  rw [lg_entry_eq]
  generalize (lg_sl ([.int p0]) ++ List.replicate (3 - (lg_sl ([.int p0])).length) Slot.unset).toArray = ls at hl ⊢
  have hl : lv_has ls 3 [(0, .int p0)] := hl
  refine lv_iconst (v := (0 : Int32)) hx hb dX9_ones_0 (by decide) ?_
  refine lv_istore_n (lv' := [(1, .int (0 : Int32)), (0, .int p0)]) hx hb dX9_ones_1 rfl hl (by decide) rfl (fun ls hl => ?_)
  refine lv_iload_n hx hb dX9_ones_2 rfl (lv_at hl 1 rfl) ?_
  refine lv_istore_n (lv' := [(2, .int p0), (1, .int (0 : Int32)), (0, .int p0)]) hx hb dX9_ones_3 rfl hl (by decide) rfl (fun ls hl => ?_)
  obtain ⟨⟨n0_1, hi0_1⟩, vc⟩ := vc
  refine kloop (V := Int32 × Int32) (I := fun n v => IX9_ones_4 p0 n (v.1) (v.2)) (wv := fun v => []) (lv := fun v => [(1, .int (v.1)), (2, .int (v.2))]) n0_1 ((0 : Int32), p0) hi0_1 hP hD hS (lv_sub hl [1, 0] rfl) ?_
  intro n_1 v_1 hi_1 ih_1 H locs hP hD hS ls hl
  obtain ⟨i_2, i_3⟩ := v_1
  replace vc := vc n_1 i_2 i_3 hi_1
  have hP : va_P D vwCl [] H := hP
  have hD : va_D A [] := hD
  have hl : lv_has ls 3 [(1, .int i_2), (2, .int i_3)] := hl
  refine lv_iload_n hx hb dX9_ones_4 rfl (lv_at hl 1 rfl) ?_
  refine lv_if_eq (tgt := 20) hx hb dX9_ones_5 (by decide) (fun c_ => ?_) (fun c_ => ?_)
  · replace vc := vc.1 c_
    refine lv_iload_n hx hb dX9_ones_20 rfl (lv_at hl 0 rfl) ?_
    exact W.iret (v := i_2) hx hb hr (fun t ht hW => ⟨⟨i_2, (), rfl, vc, QB_mk (hP.sub [] rfl) (hD.sub [] rfl rfl) ht⟩, hS.F ht⟩) hS.2.2 dX9_ones_21
  · replace vc := vc.2 c_
    obtain ⟨x_4, ex_4⟩ : ∃ y_ : Int32, y_ = (i_2 + (1 : Int32)) := ⟨_, rfl⟩
    replace vc := vc x_4 ex_4
    refine lv_iinc (v := x_4) (lv' := [(1, .int x_4), (2, .int i_3)]) hx hb dX9_ones_8 hl (k := 0) rfl (by rw [ex_4]; rfl) (by decide) rfl (fun ls hl => ?_)
    refine lv_iload_n hx hb dX9_ones_11 rfl (lv_at hl 1 rfl) ?_
    refine lv_iload_n hx hb dX9_ones_12 rfl (lv_at hl 1 rfl) ?_
    refine lv_iconst (v := (1 : Int32)) hx hb dX9_ones_13 (by decide) ?_
    refine lv_isub hx hb dX9_ones_14 ?_
    refine lv_iand hx hb dX9_ones_15 ?_
    refine lv_topi (fun x_5 ex_5 => ?_)
    replace vc := vc x_5 ex_5
    refine lv_istore_n (lv' := [(2, .int x_5), (1, .int x_4)]) hx hb dX9_ones_16 rfl hl (by decide) rfl (fun ls hl => ?_)
    refine lv_goto (tgt := 4) hx hb dX9_ones_17 (by decide) ?_
    obtain ⟨n1_, hlt_, hi_⟩ := vc
    exact ih_1 n1_ (x_4, x_5) hlt_ hi_ _ _ hP hD hS ls (lv_sub hl [1, 0] rfl)

theorem mwX9_isHassock_1 : Cond.constantLong RX9 69 (9) ∈ wsX9_isHassock := List.mem_of_getElem? (i := 1) rfl
def KX9_isHassock (l : Launch) (D : va_G) (cI cZ : ClassId) (P : Int32 → Prop) (Q : Int32 → Int32 → Prop) : Prop := ∀ (sz : Nat) (p0 : Int32), P p0 → MI l yX9_isHassock wsX9_isHassock ({ frames := 1, cells := 0, slots := 0, locals := 25 }) [.int p0] D cI cZ sz [] (fun r (u : Unit) => Q p0 r ) (fun u => []) 0 0
set_option maxHeartbeats 4000000 in
set_option maxRecDepth 100000 in
theorem walkX9_isHassock {l : Launch} {D : va_G} {cI cZ : ClassId} {PX9_isHassock : Int32 → Prop} {QX9_isHassock : Int32 → Int32 → Prop} {PX9_in : Int64 → Int64 → Int64 → Prop} {QX9_in : Int64 → Int64 → Int64 → Int32 → Prop} (kX9_in : KX9_in l D cI cZ PX9_in QX9_in) (hvc : ∀ (p0 : Int32), PX9_isHassock p0 → (PX9_in (p0.toInt64) (0 : Int64) (9 : Int64) ∧ (∀ r_1 : Int32, QX9_in (p0.toInt64) (0 : Int64) (9 : Int64) r_1 → ((r_1 = 0 ∨ r_1 = 1) ∧ QX9_isHassock p0 r_1 )))) : KX9_isHassock l D cI cZ PX9_isHassock QX9_isHassock := by
  intro sz  p0 hpre
  have vc := hvc p0 hpre
  clear hvc
  refine Met.ofW (cc := cX9_isHassock) (maxL := 1) (ret := (some .boolean)) (by decide) rfl ?_
  intro p e s m args below meth c s₁ B hml hv
  obtain ⟨rfl, hsz, hP, hK, hD0⟩ := hv
  have hx := B.exec
  have hb := B.bytes
  have hr := B.returns
  have hts := atoms_spec (ws := wsX9_isHassock) B.pre
  have hown : s.vm.findClass RX9 = some m.cls := findClass_of_methodNamed B.named
  have hlocks := B.notSynchronized
  subst hsz
  have hD := hD0.self (sz := s.heap.size)
  generalize hAe : va_A [] s.heap.size = A at hD ⊢
  have hA : ∀ q : Nat, s.heap.size ≤ q → A q := fun q h => by rw [← hAe]; exact Or.inr h
  have hS : va_S A s.heap s.heap [] := va_S.rf
  have hP : va_P D vwCl [] s.heap := hP
  have hl := lv_entry ([.int p0]) (n := 1) (Nat.le_of_ble_eq_true rfl)
  rw [lg_entry_eq]
  generalize (lg_sl ([.int p0]) ++ List.replicate (1 - (lg_sl ([.int p0])).length) Slot.unset).toArray = ls at hl ⊢
  have hl : lv_has ls 1 [(0, .int p0)] := hl
  refine lv_iload_n hx hb dX9_isHassock_0 rfl (lv_at hl 0 rfl) ?_
  refine lv_i2l hx hb dX9_isHassock_1 rfl ?_
  refine lv_lconst (v := (0 : Int64)) hx hb dX9_isHassock_2 (by decide) ?_
  refine lv_ldc2 (v := (9 : Int64)) hx hb hown (hts _ mwX9_isHassock_1) dX9_isHassock_3 ?_
  refine kj0_i (rest := []) (kS ⟨hx, hb, hml, hown, hts⟩ (kX9_in _ (p0.toInt64) (0 : Int64) (9 : Int64) vc.1) (va_cwS 3 hts gX9_isHassock_X9_in rfl rfl rfl (by decide +kernel) ⟨(Nat.le_of_ble_eq_true rfl), (Nat.le_of_ble_eq_true rfl)⟩) hK rfl rfl hl.1 (Nat.le_of_ble_eq_true rfl) dX9_isHassock_6 ⟨(Nat.le_of_ble_eq_true rfl), (Nat.le_of_ble_eq_true rfl)⟩) hP hS hA (fun r_1 H locs hq_ hP hS => ?_)
  replace vc := vc.2 r_1 hq_
  have hP : va_P D vwCl [] H := hP
  exact W.zret (v := r_1) hx hb hr (bool_isB vc.1) (fun t ht hW => ⟨⟨r_1, (), rfl, vc.2, QB_mk (hP.sub [] rfl) (hD.sub [] rfl rfl) ht⟩, hS.F ht⟩) hS.2.2 dX9_isHassock_9

def KX9_has (l : Launch) (D : va_G) (cI cZ : ClassId) (P : Int32 → Int32 → Prop) (Q : Int32 → Int32 → Int32 → Prop) : Prop := ∀ (sz : Nat) (p0 : Int32) (p1 : Int32), P p0 p1 → MI l yX9_has wsX9_has ({ frames := 0, cells := 0, slots := 0, locals := 0 }) [.int p0, .int p1] D cI cZ sz [] (fun r (u : Unit) => Q p0 p1 r ) (fun u => []) 0 0
set_option maxHeartbeats 4000000 in
set_option maxRecDepth 100000 in
theorem walkX9_has {l : Launch} {D : va_G} {cI cZ : ClassId} {PX9_has : Int32 → Int32 → Prop} {QX9_has : Int32 → Int32 → Int32 → Prop}  (hvc : ∀ (p0 : Int32) (p1 : Int32), PX9_has p0 p1 → ((¬ ((p0 >>> (p1 &&& 31)) &&& (1 : Int32)) = (1 : Int32) → (QX9_has p0 p1 (0 : Int32) )) ∧ (((p0 >>> (p1 &&& 31)) &&& (1 : Int32)) = (1 : Int32) → (QX9_has p0 p1 (1 : Int32) )))) : KX9_has l D cI cZ PX9_has QX9_has := by
  intro sz  p0 p1 hpre
  have vc := hvc p0 p1 hpre
  clear hvc
  refine Met.ofW (cc := cX9_has) (maxL := 2) (ret := (some .boolean)) (by decide) rfl ?_
  intro p e s m args below meth c s₁ B hml hv
  obtain ⟨rfl, hsz, hP, hK, hD0⟩ := hv
  have hx := B.exec
  have hb := B.bytes
  have hr := B.returns
  have hts := atoms_spec (ws := wsX9_has) B.pre
  have hown : s.vm.findClass RX9 = some m.cls := findClass_of_methodNamed B.named
  have hlocks := B.notSynchronized
  subst hsz
  have hD := hD0.self (sz := s.heap.size)
  generalize hAe : va_A [] s.heap.size = A at hD ⊢
  have hA : ∀ q : Nat, s.heap.size ≤ q → A q := fun q h => by rw [← hAe]; exact Or.inr h
  have hS : va_S A s.heap s.heap [] := va_S.rf
  have hP : va_P D vwCl [] s.heap := hP
  have hl := lv_entry ([.int p0, .int p1]) (n := 2) (Nat.le_of_ble_eq_true rfl)
  rw [lg_entry_eq]
  generalize (lg_sl ([.int p0, .int p1]) ++ List.replicate (2 - (lg_sl ([.int p0, .int p1])).length) Slot.unset).toArray = ls at hl ⊢
  have hl : lv_has ls 2 [(0, .int p0), (1, .int p1)] := hl
  refine lv_iload_n hx hb dX9_has_0 rfl (lv_at hl 0 rfl) ?_
  refine lv_iload_n hx hb dX9_has_1 rfl (lv_at hl 1 rfl) ?_
  refine lv_ishr hx hb dX9_has_2 ?_
  refine lv_iconst (v := (1 : Int32)) hx hb dX9_has_3 (by decide) ?_
  refine lv_iand hx hb dX9_has_4 ?_
  refine lv_iconst (v := (1 : Int32)) hx hb dX9_has_5 (by decide) ?_
  refine lv_icmp_ne (tgt := 13) hx hb dX9_has_6 (by decide) (fun c_ => ?_) (fun c_ => ?_)
  · replace vc := vc.1 c_
    refine lv_iconst (v := (0 : Int32)) hx hb dX9_has_13 (by decide) ?_
    exact W.zret (v := (0 : Int32)) hx hb hr rfl (fun t ht hW => ⟨⟨(0 : Int32), (), rfl, vc, QB_mk (hP.sub [] rfl) (hD.sub [] rfl rfl) ht⟩, hS.F ht⟩) hS.2.2 dX9_has_14
  · replace vc := vc.2 c_
    refine lv_iconst (v := (1 : Int32)) hx hb dX9_has_9 (by decide) ?_
    refine lv_goto (tgt := 14) hx hb dX9_has_10 (by decide) ?_
    exact W.zret (v := (1 : Int32)) hx hb hr rfl (fun t ht hW => ⟨⟨(1 : Int32), (), rfl, vc, QB_mk (hP.sub [] rfl) (hD.sub [] rfl rfl) ht⟩, hS.F ht⟩) hS.2.2 dX9_has_14

def KX9_less (l : Launch) (D : va_G) (cI cZ : ClassId) (P : Int32 → Int32 → Prop) (Q : Int32 → Int32 → Int32 → Prop) : Prop := ∀ (sz : Nat) (p0 : Int32) (p1 : Int32), P p0 p1 → MI l yX9_less wsX9_less ({ frames := 0, cells := 0, slots := 0, locals := 0 }) [.int p0, .int p1] D cI cZ sz [] (fun r (u : Unit) => Q p0 p1 r ) (fun u => []) 0 0
set_option maxHeartbeats 4000000 in
set_option maxRecDepth 100000 in
theorem walkX9_less {l : Launch} {D : va_G} {cI cZ : ClassId} {PX9_less : Int32 → Int32 → Prop} {QX9_less : Int32 → Int32 → Int32 → Prop}  (hvc : ∀ (p0 : Int32) (p1 : Int32), PX9_less p0 p1 → ((p1 ≤ p0 → (QX9_less p0 p1 p1 )) ∧ (¬ p1 ≤ p0 → (QX9_less p0 p1 p0 )))) : KX9_less l D cI cZ PX9_less QX9_less := by
  intro sz  p0 p1 hpre
  have vc := hvc p0 p1 hpre
  clear hvc
  refine Met.ofW (cc := cX9_less) (maxL := 2) (ret := (some .int)) (by decide) rfl ?_
  intro p e s m args below meth c s₁ B hml hv
  obtain ⟨rfl, hsz, hP, hK, hD0⟩ := hv
  have hx := B.exec
  have hb := B.bytes
  have hr := B.returns
  have hts := atoms_spec (ws := wsX9_less) B.pre
  have hown : s.vm.findClass RX9 = some m.cls := findClass_of_methodNamed B.named
  have hlocks := B.notSynchronized
  subst hsz
  have hD := hD0.self (sz := s.heap.size)
  generalize hAe : va_A [] s.heap.size = A at hD ⊢
  have hA : ∀ q : Nat, s.heap.size ≤ q → A q := fun q h => by rw [← hAe]; exact Or.inr h
  have hS : va_S A s.heap s.heap [] := va_S.rf
  have hP : va_P D vwCl [] s.heap := hP
  have hl := lv_entry ([.int p0, .int p1]) (n := 2) (Nat.le_of_ble_eq_true rfl)
  rw [lg_entry_eq]
  generalize (lg_sl ([.int p0, .int p1]) ++ List.replicate (2 - (lg_sl ([.int p0, .int p1])).length) Slot.unset).toArray = ls at hl ⊢
  have hl : lv_has ls 2 [(0, .int p0), (1, .int p1)] := hl
  refine lv_iload_n hx hb dX9_less_0 rfl (lv_at hl 0 rfl) ?_
  refine lv_iload_n hx hb dX9_less_1 rfl (lv_at hl 1 rfl) ?_
  refine lv_icmp_ge (tgt := 9) hx hb dX9_less_2 (by decide) (fun c_ => ?_) (fun c_ => ?_)
  · replace vc := vc.1 c_
    refine lv_iload_n hx hb dX9_less_9 rfl (lv_at hl 1 rfl) ?_
    exact W.iret (v := p1) hx hb hr (fun t ht hW => ⟨⟨p1, (), rfl, vc, QB_mk (hP.sub [] rfl) (hD.sub [] rfl rfl) ht⟩, hS.F ht⟩) hS.2.2 dX9_less_10
  · replace vc := vc.2 c_
    refine lv_iload_n hx hb dX9_less_5 rfl (lv_at hl 0 rfl) ?_
    refine lv_goto (tgt := 10) hx hb dX9_less_6 (by decide) ?_
    exact W.iret (v := p0) hx hb hr (fun t ht hW => ⟨⟨p0, (), rfl, vc, QB_mk (hP.sub [] rfl) (hD.sub [] rfl rfl) ht⟩, hS.F ht⟩) hS.2.2 dX9_less_10

theorem mwX9_hassock_1 : Cond.constantLong RX9 79 (99) ∈ wsX9_hassock := List.mem_of_getElem? (i := 1) rfl
theorem mwX9_hassock_2 : Cond.constantLong RX9 81 (255) ∈ wsX9_hassock := List.mem_of_getElem? (i := 2) rfl
theorem mwX9_hassock_3 : Cond.fieldLink RX9 62 "HassockSeeModel" "present" "I" ∈ wsX9_hassock := List.mem_of_getElem? (i := 3) rfl
theorem mwX9_hassock_4 : Cond.fieldLink RX9 7 "HassockSeeModel" "wool" "[I" ∈ wsX9_hassock := List.mem_of_getElem? (i := 4) rfl
theorem mwX9_hassock_5 : Cond.fieldLink RX9 13 "HassockSeeModel" "stitches" "[I" ∈ wsX9_hassock := List.mem_of_getElem? (i := 5) rfl
theorem mcX9_hassock_X9 : ∀ w ∈ u_ws RX9 TX9 30, w ∈ wsX9_hassock := fun _ h => (List.mem_cons_of_mem _ (List.mem_append_right _ h))
def KX9_hassock (l : Launch) (D : va_G) (cI cZ : ClassId) (P : Int32 → Int32 → Int32 → Int32 → (Nat → Int32) → (Nat → Int32) → Prop) (Q : Int32 → Int32 → Int32 → Int32 → (Nat → Int32) → (Nat → Int32) → Int32 → Int32 → (Nat → Int32) → (Nat → Int32) → Prop) : Prop := ∀ (sz : Nat) (h_this h_this_wool h_this_stitches h_this_place h_this_sightSundays h_this_sightWool h_this_pad h_this_act h_this_which h_this_much h_this_had h_this_rows h_this_groups h_this_covers h_this_byWool h_this_wins h_this_kept h_this_isKept : Nat) (p0 : Int32) (p1 : Int32) (p2 : Int32) (v_present : Int32) (v_chest : Int32) (v_years : Int32) (v_sights : Int32) (v_padMany : Int32) (v_acts : Int32) (v_sweptMany : Int32) (v_badAct : Int32) (v_badWhy : Int32) (v_sweptAct : Int32) (v_sweptWhich : Int32) (v_keptAt : Int32) (v_isWriting : Int32) (v_stitches : (Nat → Int32)) (v_wool : (Nat → Int32)), P p0 p1 p2 v_present v_stitches v_wool → MI l yX9_hassock wsX9_hassock ({ frames := 2, cells := 0, slots := 0, locals := 45 }) [.ref h_this, .int p0, .int p1, .int p2] D cI cZ sz [(h_this, .inr (9, [.int v_present, .ref h_this_wool, .ref h_this_stitches, .ref h_this_place, .int v_chest, .int v_years, .ref h_this_sightSundays, .ref h_this_sightWool, .int v_sights, .ref h_this_pad, .int v_padMany, .ref h_this_act, .ref h_this_which, .ref h_this_much, .int v_acts, .int v_sweptMany, .ref h_this_had, .int v_badAct, .int v_badWhy, .int v_sweptAct, .int v_sweptWhich, .ref h_this_rows, .ref h_this_groups, .ref h_this_covers, .ref h_this_byWool, .ref h_this_wins, .ref h_this_kept, .ref h_this_isKept, .int v_keptAt, .int v_isWriting])), (h_this_stitches, .inl (cI, 10, .inl v_stitches)), (h_this_wool, .inl (cI, 10, .inl v_wool))] (fun r (u : Int32 × (Nat → Int32) × (Nat → Int32)) => Q p0 p1 p2 v_present v_stitches v_wool r (u.1) (u.2.1) (u.2.2)) (fun u => [(h_this, .inr (9, [.int (u.1), .ref h_this_wool, .ref h_this_stitches, .ref h_this_place, .int v_chest, .int v_years, .ref h_this_sightSundays, .ref h_this_sightWool, .int v_sights, .ref h_this_pad, .int v_padMany, .ref h_this_act, .ref h_this_which, .ref h_this_much, .int v_acts, .int v_sweptMany, .ref h_this_had, .int v_badAct, .int v_badWhy, .int v_sweptAct, .int v_sweptWhich, .ref h_this_rows, .ref h_this_groups, .ref h_this_covers, .ref h_this_byWool, .ref h_this_wins, .ref h_this_kept, .ref h_this_isKept, .int v_keptAt, .int v_isWriting])), (h_this_stitches, .inl (cI, 10, .inl (u.2.1))), (h_this_wool, .inl (cI, 10, .inl (u.2.2)))]) 0 0
set_option maxHeartbeats 4000000 in
set_option maxRecDepth 100000 in
theorem walkX9_hassock {l : Launch} {D : va_G} {cI cZ : ClassId} {PX9_hassock : Int32 → Int32 → Int32 → Int32 → (Nat → Int32) → (Nat → Int32) → Prop} {QX9_hassock : Int32 → Int32 → Int32 → Int32 → (Nat → Int32) → (Nat → Int32) → Int32 → Int32 → (Nat → Int32) → (Nat → Int32) → Prop} {PX9_isHassock : Int32 → Prop} {QX9_isHassock : Int32 → Int32 → Prop} {PX9_in : Int64 → Int64 → Int64 → Prop} {QX9_in : Int64 → Int64 → Int64 → Int32 → Prop} {PX9_ones : Int32 → Prop} {QX9_ones : Int32 → Int32 → Prop} (kX9_isHassock : KX9_isHassock l D cI cZ PX9_isHassock QX9_isHassock) (kX9_in : KX9_in l D cI cZ PX9_in QX9_in) (kX9_ones : KX9_ones l D cI cZ PX9_ones QX9_ones) (hvc : ∀ (p0 : Int32) (p1 : Int32) (p2 : Int32) (v_present : Int32) (v_stitches : (Nat → Int32)) (v_wool : (Nat → Int32)), PX9_hassock p0 p1 p2 v_present v_stitches v_wool → (PX9_isHassock p0 ∧ (∀ r_1 : Int32, QX9_isHassock p0 r_1 → ((¬ r_1 = 0 → (PX9_in (p1.toInt64) (1 : Int64) (99 : Int64) ∧ (∀ r_2 : Int32, QX9_in (p1.toInt64) (1 : Int64) (99 : Int64) r_2 → ((r_2 = 0 → (QX9_hassock p0 p1 p2 v_present v_stitches v_wool (-2 : Int32) v_present v_stitches v_wool)) ∧ (¬ r_2 = 0 → (PX9_in (p2.toInt64) (0 : Int64) (255 : Int64) ∧ (∀ r_3 : Int32, QX9_in (p2.toInt64) (0 : Int64) (255 : Int64) r_3 → ((¬ r_3 = 0 → (∀ x_4 : Int32, x_4 = (v_present ||| ((1 : Int32) <<< (p0 &&& 31))) → (vp_in p0 10 ∧ (vp_in p0 10 ∧ (PX9_ones x_4 ∧ (∀ r_7 : Int32, QX9_ones x_4 r_7 → (QX9_hassock p0 p1 p2 v_present v_stitches v_wool r_7 x_4 (upd v_stitches (p0).toNatClampNeg p2) (upd v_wool (p0).toNatClampNeg p1)))))))) ∧ (r_3 = 0 → (QX9_hassock p0 p1 p2 v_present v_stitches v_wool (-2 : Int32) v_present v_stitches v_wool)))))))))) ∧ (r_1 = 0 → (QX9_hassock p0 p1 p2 v_present v_stitches v_wool (-1 : Int32) v_present v_stitches v_wool)))))) : KX9_hassock l D cI cZ PX9_hassock QX9_hassock := by
  intro sz h_this h_this_wool h_this_stitches h_this_place h_this_sightSundays h_this_sightWool h_this_pad h_this_act h_this_which h_this_much h_this_had h_this_rows h_this_groups h_this_covers h_this_byWool h_this_wins h_this_kept h_this_isKept p0 p1 p2 v_present v_chest v_years v_sights v_padMany v_acts v_sweptMany v_badAct v_badWhy v_sweptAct v_sweptWhich v_keptAt v_isWriting v_stitches v_wool hpre
  have vc := hvc p0 p1 p2 v_present v_stitches v_wool hpre
  clear hvc
  refine Met.ofW (cc := cX9_hassock) (maxL := 4) (ret := (some .int)) (by decide) rfl ?_
  intro p e s m args below meth c s₁ B hml hv
  obtain ⟨rfl, hsz, hP, hK, hD0⟩ := hv
  have hx := B.exec
  have hb := B.bytes
  have hr := B.returns
  have hts := atoms_spec (ws := wsX9_hassock) B.pre
  have hown : s.vm.findClass RX9 = some m.cls := findClass_of_methodNamed B.named
  have hlocks := B.notSynchronized
  subst hsz
  have hD := hD0.self (sz := s.heap.size)
  generalize hAe : va_A [(h_this, .inr (9, [.int v_present, .ref h_this_wool, .ref h_this_stitches, .ref h_this_place, .int v_chest, .int v_years, .ref h_this_sightSundays, .ref h_this_sightWool, .int v_sights, .ref h_this_pad, .int v_padMany, .ref h_this_act, .ref h_this_which, .ref h_this_much, .int v_acts, .int v_sweptMany, .ref h_this_had, .int v_badAct, .int v_badWhy, .int v_sweptAct, .int v_sweptWhich, .ref h_this_rows, .ref h_this_groups, .ref h_this_covers, .ref h_this_byWool, .ref h_this_wins, .ref h_this_kept, .ref h_this_isKept, .int v_keptAt, .int v_isWriting])), (h_this_stitches, .inl (cI, 10, .inl v_stitches)), (h_this_wool, .inl (cI, 10, .inl v_wool))] s.heap.size = A at hD ⊢
  have hA : ∀ q : Nat, s.heap.size ≤ q → A q := fun q h => by rw [← hAe]; exact Or.inr h
  have hS : va_S A s.heap s.heap [] := va_S.rf
  have hP : va_P D vwCl [(h_this, .inr (9, [.int v_present, .ref h_this_wool, .ref h_this_stitches, .ref h_this_place, .int v_chest, .int v_years, .ref h_this_sightSundays, .ref h_this_sightWool, .int v_sights, .ref h_this_pad, .int v_padMany, .ref h_this_act, .ref h_this_which, .ref h_this_much, .int v_acts, .int v_sweptMany, .ref h_this_had, .int v_badAct, .int v_badWhy, .int v_sweptAct, .int v_sweptWhich, .ref h_this_rows, .ref h_this_groups, .ref h_this_covers, .ref h_this_byWool, .ref h_this_wins, .ref h_this_kept, .ref h_this_isKept, .int v_keptAt, .int v_isWriting])), (h_this_stitches, .inl (cI, 10, .inl v_stitches)), (h_this_wool, .inl (cI, 10, .inl v_wool))] s.heap := hP
  have hl := lv_entry ([.ref h_this, .int p0, .int p1, .int p2]) (n := 4) (Nat.le_of_ble_eq_true rfl)
  rw [lg_entry_eq]
  generalize (lg_sl ([.ref h_this, .int p0, .int p1, .int p2]) ++ List.replicate (4 - (lg_sl ([.ref h_this, .int p0, .int p1, .int p2])).length) Slot.unset).toArray = ls at hl ⊢
  have hl : lv_has ls 4 [(0, .ref h_this), (1, .int p0), (2, .int p1), (3, .int p2)] := hl
  refine lv_iload_n hx hb dX9_hassock_0 rfl (lv_at hl 1 rfl) ?_
  refine kj0_i (rest := []) (kS ⟨hx, hb, hml, hown, hts⟩ (kX9_isHassock _ p0 vc.1) (va_cwS 1 hts gX9_hassock_X9_isHassock rfl rfl rfl (by decide +kernel) ⟨(Nat.le_of_ble_eq_true rfl), (Nat.le_of_ble_eq_true rfl)⟩) hK rfl rfl hl.1 (Nat.le_of_ble_eq_true rfl) dX9_hassock_1 ⟨(Nat.le_of_ble_eq_true rfl), (Nat.le_of_ble_eq_true rfl)⟩) hP hS hA (fun r_1 H locs hq_ hP hS => ?_)
  replace vc := vc.2 r_1 hq_
  have hP : va_P D vwCl [(h_this, .inr (9, [.int v_present, .ref h_this_wool, .ref h_this_stitches, .ref h_this_place, .int v_chest, .int v_years, .ref h_this_sightSundays, .ref h_this_sightWool, .int v_sights, .ref h_this_pad, .int v_padMany, .ref h_this_act, .ref h_this_which, .ref h_this_much, .int v_acts, .int v_sweptMany, .ref h_this_had, .int v_badAct, .int v_badWhy, .int v_sweptAct, .int v_sweptWhich, .ref h_this_rows, .ref h_this_groups, .ref h_this_covers, .ref h_this_byWool, .ref h_this_wins, .ref h_this_kept, .ref h_this_isKept, .int v_keptAt, .int v_isWriting])), (h_this_stitches, .inl (cI, 10, .inl v_stitches)), (h_this_wool, .inl (cI, 10, .inl v_wool))] H := hP
  refine lv_if_ne (tgt := 9) hx hb dX9_hassock_4 (by decide) (fun c_ => ?_) (fun c_ => ?_)
  · replace vc := vc.1 c_
    refine lv_iload_n hx hb dX9_hassock_9 rfl (lv_at hl 2 rfl) ?_
    refine lv_i2l hx hb dX9_hassock_10 rfl ?_
    refine lv_lconst (v := (1 : Int64)) hx hb dX9_hassock_11 (by decide) ?_
    refine lv_ldc2 (v := (99 : Int64)) hx hb hown (hts _ mwX9_hassock_1) dX9_hassock_12 ?_
    refine kj0_i (rest := []) (kS ⟨hx, hb, hml, hown, hts⟩ (kX9_in _ (p1.toInt64) (1 : Int64) (99 : Int64) vc.1) (va_cwS 3 hts gX9_hassock_X9_in rfl rfl rfl (by decide +kernel) ⟨(Nat.le_of_ble_eq_true rfl), (Nat.le_of_ble_eq_true rfl)⟩) hK rfl rfl hl.1 (Nat.le_of_ble_eq_true rfl) dX9_hassock_15 ⟨(Nat.le_of_ble_eq_true rfl), (Nat.le_of_ble_eq_true rfl)⟩) hP hS hA (fun r_2 H locs hq_ hP hS => ?_)
    replace vc := vc.2 r_2 hq_
    have hP : va_P D vwCl [(h_this, .inr (9, [.int v_present, .ref h_this_wool, .ref h_this_stitches, .ref h_this_place, .int v_chest, .int v_years, .ref h_this_sightSundays, .ref h_this_sightWool, .int v_sights, .ref h_this_pad, .int v_padMany, .ref h_this_act, .ref h_this_which, .ref h_this_much, .int v_acts, .int v_sweptMany, .ref h_this_had, .int v_badAct, .int v_badWhy, .int v_sweptAct, .int v_sweptWhich, .ref h_this_rows, .ref h_this_groups, .ref h_this_covers, .ref h_this_byWool, .ref h_this_wins, .ref h_this_kept, .ref h_this_isKept, .int v_keptAt, .int v_isWriting])), (h_this_stitches, .inl (cI, 10, .inl v_stitches)), (h_this_wool, .inl (cI, 10, .inl v_wool))] H := hP
    refine lv_if_eq (tgt := 33) hx hb dX9_hassock_18 (by decide) (fun c_ => ?_) (fun c_ => ?_)
    · replace vc := vc.1 c_
      refine lv_bipush (v := (-2 : Int32)) hx hb dX9_hassock_33 (by decide) ?_
      exact W.iret (v := (-2 : Int32)) hx hb hr (fun t ht hW => ⟨⟨(-2 : Int32), (v_present, v_stitches, v_wool), rfl, vc, QB_mk (hP.sub [0, 1, 2] rfl) (hD.sub [0, 1, 2] rfl rfl) ht⟩, hS.F ht⟩) hS.2.2 dX9_hassock_35
    · replace vc := vc.2 c_
      refine lv_iload_n hx hb dX9_hassock_21 rfl (lv_at hl 3 rfl) ?_
      refine lv_i2l hx hb dX9_hassock_22 rfl ?_
      refine lv_lconst (v := (0 : Int64)) hx hb dX9_hassock_23 (by decide) ?_
      refine lv_ldc2 (v := (255 : Int64)) hx hb hown (hts _ mwX9_hassock_2) dX9_hassock_24 ?_
      refine kj0_i (rest := []) (kS ⟨hx, hb, hml, hown, hts⟩ (kX9_in _ (p2.toInt64) (0 : Int64) (255 : Int64) vc.1) (va_cwS 3 hts gX9_hassock_X9_in rfl rfl rfl (by decide +kernel) ⟨(Nat.le_of_ble_eq_true rfl), (Nat.le_of_ble_eq_true rfl)⟩) hK rfl rfl hl.1 (Nat.le_of_ble_eq_true rfl) dX9_hassock_27 ⟨(Nat.le_of_ble_eq_true rfl), (Nat.le_of_ble_eq_true rfl)⟩) hP hS hA (fun r_3 H locs hq_ hP hS => ?_)
      replace vc := vc.2 r_3 hq_
      have hP : va_P D vwCl [(h_this, .inr (9, [.int v_present, .ref h_this_wool, .ref h_this_stitches, .ref h_this_place, .int v_chest, .int v_years, .ref h_this_sightSundays, .ref h_this_sightWool, .int v_sights, .ref h_this_pad, .int v_padMany, .ref h_this_act, .ref h_this_which, .ref h_this_much, .int v_acts, .int v_sweptMany, .ref h_this_had, .int v_badAct, .int v_badWhy, .int v_sweptAct, .int v_sweptWhich, .ref h_this_rows, .ref h_this_groups, .ref h_this_covers, .ref h_this_byWool, .ref h_this_wins, .ref h_this_kept, .ref h_this_isKept, .int v_keptAt, .int v_isWriting])), (h_this_stitches, .inl (cI, 10, .inl v_stitches)), (h_this_wool, .inl (cI, 10, .inl v_wool))] H := hP
      refine lv_if_ne (tgt := 36) hx hb dX9_hassock_30 (by decide) (fun c_ => ?_) (fun c_ => ?_)
      · replace vc := vc.1 c_
        refine lv_aload_n hx hb dX9_hassock_36 rfl (lv_at hl 0 rfl) ?_
        refine lv_dup hx hb dX9_hassock_37 rfl ?_
        refine va_get (D := D) (ci := 9) (v := .int v_present) (C := RX9) (T := TX9) (N := 30) hx hb hts mcX9_hassock_X9 hown hK.1 hP 0 rfl rfl 0 (by decide) (hts _ mwX9_hassock_3) (fun _ h9 => h9) rfl dX9_hassock_38 ?_
        refine lv_iconst (v := (1 : Int32)) hx hb dX9_hassock_41 (by decide) ?_
        refine lv_iload_n hx hb dX9_hassock_42 rfl (lv_at hl 1 rfl) ?_
        refine lv_ishl hx hb dX9_hassock_43 ?_
        refine lv_ior hx hb dX9_hassock_44 ?_
        refine lv_topi (fun x_4 ex_4 => ?_)
        replace vc := vc x_4 ex_4
        refine va_put (D := D) (ci := 9) (v := .int x_4) (ty := .int) (C := RX9) (T := TX9) (N := 30) hx hb hts mcX9_hassock_X9 tyX9 tyX9_ok nmX9 hown hK.1 hP hD hS 0 rfl rfl 0 (by decide) (hts _ mwX9_hassock_3) (fun _ h9 => h9) rfl (by decide +kernel) rfl rfl (Nat.le_of_ble_eq_true rfl) dX9_hassock_45 (fun H locs hP hD hS => ?_)
        have hP : va_P D vwCl [(h_this, .inr (9, [.int x_4, .ref h_this_wool, .ref h_this_stitches, .ref h_this_place, .int v_chest, .int v_years, .ref h_this_sightSundays, .ref h_this_sightWool, .int v_sights, .ref h_this_pad, .int v_padMany, .ref h_this_act, .ref h_this_which, .ref h_this_much, .int v_acts, .int v_sweptMany, .ref h_this_had, .int v_badAct, .int v_badWhy, .int v_sweptAct, .int v_sweptWhich, .ref h_this_rows, .ref h_this_groups, .ref h_this_covers, .ref h_this_byWool, .ref h_this_wins, .ref h_this_kept, .ref h_this_isKept, .int v_keptAt, .int v_isWriting])), (h_this_stitches, .inl (cI, 10, .inl v_stitches)), (h_this_wool, .inl (cI, 10, .inl v_wool))] H := hP
        have hD : va_D A [(h_this, .inr (9, [.int x_4, .ref h_this_wool, .ref h_this_stitches, .ref h_this_place, .int v_chest, .int v_years, .ref h_this_sightSundays, .ref h_this_sightWool, .int v_sights, .ref h_this_pad, .int v_padMany, .ref h_this_act, .ref h_this_which, .ref h_this_much, .int v_acts, .int v_sweptMany, .ref h_this_had, .int v_badAct, .int v_badWhy, .int v_sweptAct, .int v_sweptWhich, .ref h_this_rows, .ref h_this_groups, .ref h_this_covers, .ref h_this_byWool, .ref h_this_wins, .ref h_this_kept, .ref h_this_isKept, .int v_keptAt, .int v_isWriting])), (h_this_stitches, .inl (cI, 10, .inl v_stitches)), (h_this_wool, .inl (cI, 10, .inl v_wool))] := hD
        refine lv_aload_n hx hb dX9_hassock_48 rfl (lv_at hl 0 rfl) ?_
        refine va_get (D := D) (ci := 9) (v := .ref h_this_wool) (C := RX9) (T := TX9) (N := 30) hx hb hts mcX9_hassock_X9 hown hK.1 hP 0 rfl rfl 1 (by decide) (hts _ mwX9_hassock_4) (fun _ h9 => h9) rfl dX9_hassock_49 ?_
        refine lv_iload_n hx hb dX9_hassock_52 rfl (lv_at hl 1 rfl) ?_
        refine lv_iload_n hx hb dX9_hassock_53 rfl (lv_at hl 2 rfl) ?_
        have hi_5 := vc.1
        replace vc := vc.2
        refine va_iast hx hb hK.1 hP hD hS 2 0 rfl rfl hi_5 dX9_hassock_54 (fun H locs hP hD hS => ?_)
        have hP : va_P D vwCl [(h_this, .inr (9, [.int x_4, .ref h_this_wool, .ref h_this_stitches, .ref h_this_place, .int v_chest, .int v_years, .ref h_this_sightSundays, .ref h_this_sightWool, .int v_sights, .ref h_this_pad, .int v_padMany, .ref h_this_act, .ref h_this_which, .ref h_this_much, .int v_acts, .int v_sweptMany, .ref h_this_had, .int v_badAct, .int v_badWhy, .int v_sweptAct, .int v_sweptWhich, .ref h_this_rows, .ref h_this_groups, .ref h_this_covers, .ref h_this_byWool, .ref h_this_wins, .ref h_this_kept, .ref h_this_isKept, .int v_keptAt, .int v_isWriting])), (h_this_stitches, .inl (cI, 10, .inl v_stitches)), (h_this_wool, .inl (cI, 10, .inl (upd v_wool (p0).toNatClampNeg p1)))] H := hP
        have hD : va_D A [(h_this, .inr (9, [.int x_4, .ref h_this_wool, .ref h_this_stitches, .ref h_this_place, .int v_chest, .int v_years, .ref h_this_sightSundays, .ref h_this_sightWool, .int v_sights, .ref h_this_pad, .int v_padMany, .ref h_this_act, .ref h_this_which, .ref h_this_much, .int v_acts, .int v_sweptMany, .ref h_this_had, .int v_badAct, .int v_badWhy, .int v_sweptAct, .int v_sweptWhich, .ref h_this_rows, .ref h_this_groups, .ref h_this_covers, .ref h_this_byWool, .ref h_this_wins, .ref h_this_kept, .ref h_this_isKept, .int v_keptAt, .int v_isWriting])), (h_this_stitches, .inl (cI, 10, .inl v_stitches)), (h_this_wool, .inl (cI, 10, .inl (upd v_wool (p0).toNatClampNeg p1)))] := hD
        refine lv_aload_n hx hb dX9_hassock_55 rfl (lv_at hl 0 rfl) ?_
        refine va_get (D := D) (ci := 9) (v := .ref h_this_stitches) (C := RX9) (T := TX9) (N := 30) hx hb hts mcX9_hassock_X9 hown hK.1 hP 0 rfl rfl 2 (by decide) (hts _ mwX9_hassock_5) (fun _ h9 => h9) rfl dX9_hassock_56 ?_
        refine lv_iload_n hx hb dX9_hassock_59 rfl (lv_at hl 1 rfl) ?_
        refine lv_iload_n hx hb dX9_hassock_60 rfl (lv_at hl 3 rfl) ?_
        have hi_6 := vc.1
        replace vc := vc.2
        refine va_iast hx hb hK.1 hP hD hS 1 0 rfl rfl hi_6 dX9_hassock_61 (fun H locs hP hD hS => ?_)
        have hP : va_P D vwCl [(h_this, .inr (9, [.int x_4, .ref h_this_wool, .ref h_this_stitches, .ref h_this_place, .int v_chest, .int v_years, .ref h_this_sightSundays, .ref h_this_sightWool, .int v_sights, .ref h_this_pad, .int v_padMany, .ref h_this_act, .ref h_this_which, .ref h_this_much, .int v_acts, .int v_sweptMany, .ref h_this_had, .int v_badAct, .int v_badWhy, .int v_sweptAct, .int v_sweptWhich, .ref h_this_rows, .ref h_this_groups, .ref h_this_covers, .ref h_this_byWool, .ref h_this_wins, .ref h_this_kept, .ref h_this_isKept, .int v_keptAt, .int v_isWriting])), (h_this_stitches, .inl (cI, 10, .inl (upd v_stitches (p0).toNatClampNeg p2))), (h_this_wool, .inl (cI, 10, .inl (upd v_wool (p0).toNatClampNeg p1)))] H := hP
        have hD : va_D A [(h_this, .inr (9, [.int x_4, .ref h_this_wool, .ref h_this_stitches, .ref h_this_place, .int v_chest, .int v_years, .ref h_this_sightSundays, .ref h_this_sightWool, .int v_sights, .ref h_this_pad, .int v_padMany, .ref h_this_act, .ref h_this_which, .ref h_this_much, .int v_acts, .int v_sweptMany, .ref h_this_had, .int v_badAct, .int v_badWhy, .int v_sweptAct, .int v_sweptWhich, .ref h_this_rows, .ref h_this_groups, .ref h_this_covers, .ref h_this_byWool, .ref h_this_wins, .ref h_this_kept, .ref h_this_isKept, .int v_keptAt, .int v_isWriting])), (h_this_stitches, .inl (cI, 10, .inl (upd v_stitches (p0).toNatClampNeg p2))), (h_this_wool, .inl (cI, 10, .inl (upd v_wool (p0).toNatClampNeg p1)))] := hD
        refine lv_aload_n hx hb dX9_hassock_62 rfl (lv_at hl 0 rfl) ?_
        refine va_get (D := D) (ci := 9) (v := .int x_4) (C := RX9) (T := TX9) (N := 30) hx hb hts mcX9_hassock_X9 hown hK.1 hP 0 rfl rfl 0 (by decide) (hts _ mwX9_hassock_3) (fun _ h9 => h9) rfl dX9_hassock_63 ?_
        refine kj0_i (rest := []) (kS ⟨hx, hb, hml, hown, hts⟩ (kX9_ones _ x_4 vc.1) (va_cwS 1 hts gX9_hassock_X9_ones rfl rfl rfl (by decide +kernel) ⟨(Nat.le_of_ble_eq_true rfl), (Nat.le_of_ble_eq_true rfl)⟩) hK rfl rfl hl.1 (Nat.le_of_ble_eq_true rfl) dX9_hassock_66 ⟨(Nat.le_of_ble_eq_true rfl), (Nat.le_of_ble_eq_true rfl)⟩) hP hS hA (fun r_7 H locs hq_ hP hS => ?_)
        replace vc := vc.2 r_7 hq_
        have hP : va_P D vwCl [(h_this, .inr (9, [.int x_4, .ref h_this_wool, .ref h_this_stitches, .ref h_this_place, .int v_chest, .int v_years, .ref h_this_sightSundays, .ref h_this_sightWool, .int v_sights, .ref h_this_pad, .int v_padMany, .ref h_this_act, .ref h_this_which, .ref h_this_much, .int v_acts, .int v_sweptMany, .ref h_this_had, .int v_badAct, .int v_badWhy, .int v_sweptAct, .int v_sweptWhich, .ref h_this_rows, .ref h_this_groups, .ref h_this_covers, .ref h_this_byWool, .ref h_this_wins, .ref h_this_kept, .ref h_this_isKept, .int v_keptAt, .int v_isWriting])), (h_this_stitches, .inl (cI, 10, .inl (upd v_stitches (p0).toNatClampNeg p2))), (h_this_wool, .inl (cI, 10, .inl (upd v_wool (p0).toNatClampNeg p1)))] H := hP
        exact W.iret (v := r_7) hx hb hr (fun t ht hW => ⟨⟨r_7, (x_4, (upd v_stitches (p0).toNatClampNeg p2), (upd v_wool (p0).toNatClampNeg p1)), rfl, vc, QB_mk (hP.sub [0, 1, 2] rfl) (hD.sub [0, 1, 2] rfl rfl) ht⟩, hS.F ht⟩) hS.2.2 dX9_hassock_69
      · replace vc := vc.2 c_
        refine lv_bipush (v := (-2 : Int32)) hx hb dX9_hassock_33 (by decide) ?_
        exact W.iret (v := (-2 : Int32)) hx hb hr (fun t ht hW => ⟨⟨(-2 : Int32), (v_present, v_stitches, v_wool), rfl, vc, QB_mk (hP.sub [0, 1, 2] rfl) (hD.sub [0, 1, 2] rfl rfl) ht⟩, hS.F ht⟩) hS.2.2 dX9_hassock_35
  · replace vc := vc.2 c_
    refine lv_iconst (v := (-1 : Int32)) hx hb dX9_hassock_7 (by decide) ?_
    exact W.iret (v := (-1 : Int32)) hx hb hr (fun t ht hW => ⟨⟨(-1 : Int32), (v_present, v_stitches, v_wool), rfl, vc, QB_mk (hP.sub [0, 1, 2] rfl) (hD.sub [0, 1, 2] rfl rfl) ht⟩, hS.F ht⟩) hS.2.2 dX9_hassock_8

theorem mwX9_gone_1 : Cond.fieldLink RX9 62 "HassockSeeModel" "present" "I" ∈ wsX9_gone := List.mem_of_getElem? (i := 1) rfl
theorem mcX9_gone_X9 : ∀ w ∈ u_ws RX9 TX9 30, w ∈ wsX9_gone := fun _ h => (List.mem_cons_of_mem _ (List.mem_append_right _ h))
def KX9_gone (l : Launch) (D : va_G) (cI cZ : ClassId) (P : Int32 → Int32 → Prop) (Q : Int32 → Int32 → Int32 → Int32 → Prop) : Prop := ∀ (sz : Nat) (h_this h_this_wool h_this_stitches h_this_place h_this_sightSundays h_this_sightWool h_this_pad h_this_act h_this_which h_this_much h_this_had h_this_rows h_this_groups h_this_covers h_this_byWool h_this_wins h_this_kept h_this_isKept : Nat) (p0 : Int32) (v_present : Int32) (v_chest : Int32) (v_years : Int32) (v_sights : Int32) (v_padMany : Int32) (v_acts : Int32) (v_sweptMany : Int32) (v_badAct : Int32) (v_badWhy : Int32) (v_sweptAct : Int32) (v_sweptWhich : Int32) (v_keptAt : Int32) (v_isWriting : Int32), P p0 v_present → MI l yX9_gone wsX9_gone ({ frames := 2, cells := 0, slots := 0, locals := 45 }) [.ref h_this, .int p0] D cI cZ sz [(h_this, .inr (9, [.int v_present, .ref h_this_wool, .ref h_this_stitches, .ref h_this_place, .int v_chest, .int v_years, .ref h_this_sightSundays, .ref h_this_sightWool, .int v_sights, .ref h_this_pad, .int v_padMany, .ref h_this_act, .ref h_this_which, .ref h_this_much, .int v_acts, .int v_sweptMany, .ref h_this_had, .int v_badAct, .int v_badWhy, .int v_sweptAct, .int v_sweptWhich, .ref h_this_rows, .ref h_this_groups, .ref h_this_covers, .ref h_this_byWool, .ref h_this_wins, .ref h_this_kept, .ref h_this_isKept, .int v_keptAt, .int v_isWriting]))] (fun r (u : Int32) => Q p0 v_present r u) (fun u => [(h_this, .inr (9, [.int u, .ref h_this_wool, .ref h_this_stitches, .ref h_this_place, .int v_chest, .int v_years, .ref h_this_sightSundays, .ref h_this_sightWool, .int v_sights, .ref h_this_pad, .int v_padMany, .ref h_this_act, .ref h_this_which, .ref h_this_much, .int v_acts, .int v_sweptMany, .ref h_this_had, .int v_badAct, .int v_badWhy, .int v_sweptAct, .int v_sweptWhich, .ref h_this_rows, .ref h_this_groups, .ref h_this_covers, .ref h_this_byWool, .ref h_this_wins, .ref h_this_kept, .ref h_this_isKept, .int v_keptAt, .int v_isWriting]))]) 0 0
set_option maxHeartbeats 4000000 in
set_option maxRecDepth 100000 in
theorem walkX9_gone {l : Launch} {D : va_G} {cI cZ : ClassId} {PX9_gone : Int32 → Int32 → Prop} {QX9_gone : Int32 → Int32 → Int32 → Int32 → Prop} {PX9_isHassock : Int32 → Prop} {QX9_isHassock : Int32 → Int32 → Prop} {PX9_has : Int32 → Int32 → Prop} {QX9_has : Int32 → Int32 → Int32 → Prop} {PX9_ones : Int32 → Prop} {QX9_ones : Int32 → Int32 → Prop} (kX9_isHassock : KX9_isHassock l D cI cZ PX9_isHassock QX9_isHassock) (kX9_has : KX9_has l D cI cZ PX9_has QX9_has) (kX9_ones : KX9_ones l D cI cZ PX9_ones QX9_ones) (hvc : ∀ (p0 : Int32) (v_present : Int32), PX9_gone p0 v_present → (PX9_isHassock p0 ∧ (∀ r_1 : Int32, QX9_isHassock p0 r_1 → ((r_1 = 0 → (QX9_gone p0 v_present (-1 : Int32) v_present)) ∧ (¬ r_1 = 0 → (PX9_has v_present p0 ∧ (∀ r_2 : Int32, QX9_has v_present p0 r_2 → ((¬ r_2 = 0 → (∀ x_3 : Int32, x_3 = (v_present &&& (((1 : Int32) <<< (p0 &&& 31)) ^^^ (-1 : Int32))) → (PX9_ones x_3 ∧ (∀ r_4 : Int32, QX9_ones x_3 r_4 → (QX9_gone p0 v_present r_4 x_3))))) ∧ (r_2 = 0 → (QX9_gone p0 v_present (-1 : Int32) v_present)))))))))) : KX9_gone l D cI cZ PX9_gone QX9_gone := by
  intro sz h_this h_this_wool h_this_stitches h_this_place h_this_sightSundays h_this_sightWool h_this_pad h_this_act h_this_which h_this_much h_this_had h_this_rows h_this_groups h_this_covers h_this_byWool h_this_wins h_this_kept h_this_isKept p0 v_present v_chest v_years v_sights v_padMany v_acts v_sweptMany v_badAct v_badWhy v_sweptAct v_sweptWhich v_keptAt v_isWriting hpre
  have vc := hvc p0 v_present hpre
  clear hvc
  refine Met.ofW (cc := cX9_gone) (maxL := 2) (ret := (some .int)) (by decide) rfl ?_
  intro p e s m args below meth c s₁ B hml hv
  obtain ⟨rfl, hsz, hP, hK, hD0⟩ := hv
  have hx := B.exec
  have hb := B.bytes
  have hr := B.returns
  have hts := atoms_spec (ws := wsX9_gone) B.pre
  have hown : s.vm.findClass RX9 = some m.cls := findClass_of_methodNamed B.named
  have hlocks := B.notSynchronized
  subst hsz
  have hD := hD0.self (sz := s.heap.size)
  generalize hAe : va_A [(h_this, .inr (9, [.int v_present, .ref h_this_wool, .ref h_this_stitches, .ref h_this_place, .int v_chest, .int v_years, .ref h_this_sightSundays, .ref h_this_sightWool, .int v_sights, .ref h_this_pad, .int v_padMany, .ref h_this_act, .ref h_this_which, .ref h_this_much, .int v_acts, .int v_sweptMany, .ref h_this_had, .int v_badAct, .int v_badWhy, .int v_sweptAct, .int v_sweptWhich, .ref h_this_rows, .ref h_this_groups, .ref h_this_covers, .ref h_this_byWool, .ref h_this_wins, .ref h_this_kept, .ref h_this_isKept, .int v_keptAt, .int v_isWriting]))] s.heap.size = A at hD ⊢
  have hA : ∀ q : Nat, s.heap.size ≤ q → A q := fun q h => by rw [← hAe]; exact Or.inr h
  have hS : va_S A s.heap s.heap [] := va_S.rf
  have hP : va_P D vwCl [(h_this, .inr (9, [.int v_present, .ref h_this_wool, .ref h_this_stitches, .ref h_this_place, .int v_chest, .int v_years, .ref h_this_sightSundays, .ref h_this_sightWool, .int v_sights, .ref h_this_pad, .int v_padMany, .ref h_this_act, .ref h_this_which, .ref h_this_much, .int v_acts, .int v_sweptMany, .ref h_this_had, .int v_badAct, .int v_badWhy, .int v_sweptAct, .int v_sweptWhich, .ref h_this_rows, .ref h_this_groups, .ref h_this_covers, .ref h_this_byWool, .ref h_this_wins, .ref h_this_kept, .ref h_this_isKept, .int v_keptAt, .int v_isWriting]))] s.heap := hP
  have hl := lv_entry ([.ref h_this, .int p0]) (n := 2) (Nat.le_of_ble_eq_true rfl)
  rw [lg_entry_eq]
  generalize (lg_sl ([.ref h_this, .int p0]) ++ List.replicate (2 - (lg_sl ([.ref h_this, .int p0])).length) Slot.unset).toArray = ls at hl ⊢
  have hl : lv_has ls 2 [(0, .ref h_this), (1, .int p0)] := hl
  refine lv_iload_n hx hb dX9_gone_0 rfl (lv_at hl 1 rfl) ?_
  refine kj0_i (rest := []) (kS ⟨hx, hb, hml, hown, hts⟩ (kX9_isHassock _ p0 vc.1) (va_cwS 1 hts gX9_gone_X9_isHassock rfl rfl rfl (by decide +kernel) ⟨(Nat.le_of_ble_eq_true rfl), (Nat.le_of_ble_eq_true rfl)⟩) hK rfl rfl hl.1 (Nat.le_of_ble_eq_true rfl) dX9_gone_1 ⟨(Nat.le_of_ble_eq_true rfl), (Nat.le_of_ble_eq_true rfl)⟩) hP hS hA (fun r_1 H locs hq_ hP hS => ?_)
  replace vc := vc.2 r_1 hq_
  have hP : va_P D vwCl [(h_this, .inr (9, [.int v_present, .ref h_this_wool, .ref h_this_stitches, .ref h_this_place, .int v_chest, .int v_years, .ref h_this_sightSundays, .ref h_this_sightWool, .int v_sights, .ref h_this_pad, .int v_padMany, .ref h_this_act, .ref h_this_which, .ref h_this_much, .int v_acts, .int v_sweptMany, .ref h_this_had, .int v_badAct, .int v_badWhy, .int v_sweptAct, .int v_sweptWhich, .ref h_this_rows, .ref h_this_groups, .ref h_this_covers, .ref h_this_byWool, .ref h_this_wins, .ref h_this_kept, .ref h_this_isKept, .int v_keptAt, .int v_isWriting]))] H := hP
  refine lv_if_eq (tgt := 18) hx hb dX9_gone_4 (by decide) (fun c_ => ?_) (fun c_ => ?_)
  · replace vc := vc.1 c_
    refine lv_iconst (v := (-1 : Int32)) hx hb dX9_gone_18 (by decide) ?_
    exact W.iret (v := (-1 : Int32)) hx hb hr (fun t ht hW => ⟨⟨(-1 : Int32), (v_present), rfl, vc, QB_mk (hP.sub [0] rfl) (hD.sub [0] rfl rfl) ht⟩, hS.F ht⟩) hS.2.2 dX9_gone_19
  · replace vc := vc.2 c_
    refine lv_aload_n hx hb dX9_gone_7 rfl (lv_at hl 0 rfl) ?_
    refine va_get (D := D) (ci := 9) (v := .int v_present) (C := RX9) (T := TX9) (N := 30) hx hb hts mcX9_gone_X9 hown hK.1 hP 0 rfl rfl 0 (by decide) (hts _ mwX9_gone_1) (fun _ h9 => h9) rfl dX9_gone_8 ?_
    refine lv_iload_n hx hb dX9_gone_11 rfl (lv_at hl 1 rfl) ?_
    refine kj0_i (rest := []) (kS ⟨hx, hb, hml, hown, hts⟩ (kX9_has _ v_present p0 vc.1) (va_cwS 2 hts gX9_gone_X9_has rfl rfl rfl (by decide +kernel) ⟨(Nat.le_of_ble_eq_true rfl), (Nat.le_of_ble_eq_true rfl)⟩) hK rfl rfl hl.1 (Nat.le_of_ble_eq_true rfl) dX9_gone_12 ⟨(Nat.le_of_ble_eq_true rfl), (Nat.le_of_ble_eq_true rfl)⟩) hP hS hA (fun r_2 H locs hq_ hP hS => ?_)
    replace vc := vc.2 r_2 hq_
    have hP : va_P D vwCl [(h_this, .inr (9, [.int v_present, .ref h_this_wool, .ref h_this_stitches, .ref h_this_place, .int v_chest, .int v_years, .ref h_this_sightSundays, .ref h_this_sightWool, .int v_sights, .ref h_this_pad, .int v_padMany, .ref h_this_act, .ref h_this_which, .ref h_this_much, .int v_acts, .int v_sweptMany, .ref h_this_had, .int v_badAct, .int v_badWhy, .int v_sweptAct, .int v_sweptWhich, .ref h_this_rows, .ref h_this_groups, .ref h_this_covers, .ref h_this_byWool, .ref h_this_wins, .ref h_this_kept, .ref h_this_isKept, .int v_keptAt, .int v_isWriting]))] H := hP
    refine lv_if_ne (tgt := 20) hx hb dX9_gone_15 (by decide) (fun c_ => ?_) (fun c_ => ?_)
    · replace vc := vc.1 c_
      refine lv_aload_n hx hb dX9_gone_20 rfl (lv_at hl 0 rfl) ?_
      refine lv_dup hx hb dX9_gone_21 rfl ?_
      refine va_get (D := D) (ci := 9) (v := .int v_present) (C := RX9) (T := TX9) (N := 30) hx hb hts mcX9_gone_X9 hown hK.1 hP 0 rfl rfl 0 (by decide) (hts _ mwX9_gone_1) (fun _ h9 => h9) rfl dX9_gone_22 ?_
      refine lv_iconst (v := (1 : Int32)) hx hb dX9_gone_25 (by decide) ?_
      refine lv_iload_n hx hb dX9_gone_26 rfl (lv_at hl 1 rfl) ?_
      refine lv_ishl hx hb dX9_gone_27 ?_
      refine lv_iconst (v := (-1 : Int32)) hx hb dX9_gone_28 (by decide) ?_
      refine lv_ixor hx hb dX9_gone_29 ?_
      refine lv_iand hx hb dX9_gone_30 ?_
      refine lv_topi (fun x_3 ex_3 => ?_)
      replace vc := vc x_3 ex_3
      refine va_put (D := D) (ci := 9) (v := .int x_3) (ty := .int) (C := RX9) (T := TX9) (N := 30) hx hb hts mcX9_gone_X9 tyX9 tyX9_ok nmX9 hown hK.1 hP hD hS 0 rfl rfl 0 (by decide) (hts _ mwX9_gone_1) (fun _ h9 => h9) rfl (by decide +kernel) rfl rfl (Nat.le_of_ble_eq_true rfl) dX9_gone_31 (fun H locs hP hD hS => ?_)
      have hP : va_P D vwCl [(h_this, .inr (9, [.int x_3, .ref h_this_wool, .ref h_this_stitches, .ref h_this_place, .int v_chest, .int v_years, .ref h_this_sightSundays, .ref h_this_sightWool, .int v_sights, .ref h_this_pad, .int v_padMany, .ref h_this_act, .ref h_this_which, .ref h_this_much, .int v_acts, .int v_sweptMany, .ref h_this_had, .int v_badAct, .int v_badWhy, .int v_sweptAct, .int v_sweptWhich, .ref h_this_rows, .ref h_this_groups, .ref h_this_covers, .ref h_this_byWool, .ref h_this_wins, .ref h_this_kept, .ref h_this_isKept, .int v_keptAt, .int v_isWriting]))] H := hP
      have hD : va_D A [(h_this, .inr (9, [.int x_3, .ref h_this_wool, .ref h_this_stitches, .ref h_this_place, .int v_chest, .int v_years, .ref h_this_sightSundays, .ref h_this_sightWool, .int v_sights, .ref h_this_pad, .int v_padMany, .ref h_this_act, .ref h_this_which, .ref h_this_much, .int v_acts, .int v_sweptMany, .ref h_this_had, .int v_badAct, .int v_badWhy, .int v_sweptAct, .int v_sweptWhich, .ref h_this_rows, .ref h_this_groups, .ref h_this_covers, .ref h_this_byWool, .ref h_this_wins, .ref h_this_kept, .ref h_this_isKept, .int v_keptAt, .int v_isWriting]))] := hD
      refine lv_aload_n hx hb dX9_gone_34 rfl (lv_at hl 0 rfl) ?_
      refine va_get (D := D) (ci := 9) (v := .int x_3) (C := RX9) (T := TX9) (N := 30) hx hb hts mcX9_gone_X9 hown hK.1 hP 0 rfl rfl 0 (by decide) (hts _ mwX9_gone_1) (fun _ h9 => h9) rfl dX9_gone_35 ?_
      refine kj0_i (rest := []) (kS ⟨hx, hb, hml, hown, hts⟩ (kX9_ones _ x_3 vc.1) (va_cwS 1 hts gX9_gone_X9_ones rfl rfl rfl (by decide +kernel) ⟨(Nat.le_of_ble_eq_true rfl), (Nat.le_of_ble_eq_true rfl)⟩) hK rfl rfl hl.1 (Nat.le_of_ble_eq_true rfl) dX9_gone_38 ⟨(Nat.le_of_ble_eq_true rfl), (Nat.le_of_ble_eq_true rfl)⟩) hP hS hA (fun r_4 H locs hq_ hP hS => ?_)
      replace vc := vc.2 r_4 hq_
      have hP : va_P D vwCl [(h_this, .inr (9, [.int x_3, .ref h_this_wool, .ref h_this_stitches, .ref h_this_place, .int v_chest, .int v_years, .ref h_this_sightSundays, .ref h_this_sightWool, .int v_sights, .ref h_this_pad, .int v_padMany, .ref h_this_act, .ref h_this_which, .ref h_this_much, .int v_acts, .int v_sweptMany, .ref h_this_had, .int v_badAct, .int v_badWhy, .int v_sweptAct, .int v_sweptWhich, .ref h_this_rows, .ref h_this_groups, .ref h_this_covers, .ref h_this_byWool, .ref h_this_wins, .ref h_this_kept, .ref h_this_isKept, .int v_keptAt, .int v_isWriting]))] H := hP
      exact W.iret (v := r_4) hx hb hr (fun t ht hW => ⟨⟨r_4, (x_3), rfl, vc, QB_mk (hP.sub [0] rfl) (hD.sub [0] rfl rfl) ht⟩, hS.F ht⟩) hS.2.2 dX9_gone_41
    · replace vc := vc.2 c_
      refine lv_iconst (v := (-1 : Int32)) hx hb dX9_gone_18 (by decide) ?_
      exact W.iret (v := (-1 : Int32)) hx hb hr (fun t ht hW => ⟨⟨(-1 : Int32), (v_present), rfl, vc, QB_mk (hP.sub [0] rfl) (hD.sub [0] rfl rfl) ht⟩, hS.F ht⟩) hS.2.2 dX9_gone_19

theorem mwX9_hair_1 : Cond.constantLong RX9 91 (999) ∈ wsX9_hair := List.mem_of_getElem? (i := 1) rfl
theorem mwX9_hair_2 : Cond.fieldLink RX9 66 "HassockSeeModel" "chest" "I" ∈ wsX9_hair := List.mem_of_getElem? (i := 2) rfl
theorem mcX9_hair_X9 : ∀ w ∈ u_ws RX9 TX9 30, w ∈ wsX9_hair := fun _ h => (List.mem_cons_of_mem _ (List.mem_append_right _ h))
def KX9_hair (l : Launch) (D : va_G) (cI cZ : ClassId) (P : Int32 → Int32 → Prop) (Q : Int32 → Int32 → Int32 → Int32 → Prop) : Prop := ∀ (sz : Nat) (h_this h_this_wool h_this_stitches h_this_place h_this_sightSundays h_this_sightWool h_this_pad h_this_act h_this_which h_this_much h_this_had h_this_rows h_this_groups h_this_covers h_this_byWool h_this_wins h_this_kept h_this_isKept : Nat) (p0 : Int32) (v_present : Int32) (v_chest : Int32) (v_years : Int32) (v_sights : Int32) (v_padMany : Int32) (v_acts : Int32) (v_sweptMany : Int32) (v_badAct : Int32) (v_badWhy : Int32) (v_sweptAct : Int32) (v_sweptWhich : Int32) (v_keptAt : Int32) (v_isWriting : Int32), P p0 v_chest → MI l yX9_hair wsX9_hair ({ frames := 1, cells := 0, slots := 0, locals := 25 }) [.ref h_this, .int p0] D cI cZ sz [(h_this, .inr (9, [.int v_present, .ref h_this_wool, .ref h_this_stitches, .ref h_this_place, .int v_chest, .int v_years, .ref h_this_sightSundays, .ref h_this_sightWool, .int v_sights, .ref h_this_pad, .int v_padMany, .ref h_this_act, .ref h_this_which, .ref h_this_much, .int v_acts, .int v_sweptMany, .ref h_this_had, .int v_badAct, .int v_badWhy, .int v_sweptAct, .int v_sweptWhich, .ref h_this_rows, .ref h_this_groups, .ref h_this_covers, .ref h_this_byWool, .ref h_this_wins, .ref h_this_kept, .ref h_this_isKept, .int v_keptAt, .int v_isWriting]))] (fun r (u : Int32) => Q p0 v_chest r u) (fun u => [(h_this, .inr (9, [.int v_present, .ref h_this_wool, .ref h_this_stitches, .ref h_this_place, .int u, .int v_years, .ref h_this_sightSundays, .ref h_this_sightWool, .int v_sights, .ref h_this_pad, .int v_padMany, .ref h_this_act, .ref h_this_which, .ref h_this_much, .int v_acts, .int v_sweptMany, .ref h_this_had, .int v_badAct, .int v_badWhy, .int v_sweptAct, .int v_sweptWhich, .ref h_this_rows, .ref h_this_groups, .ref h_this_covers, .ref h_this_byWool, .ref h_this_wins, .ref h_this_kept, .ref h_this_isKept, .int v_keptAt, .int v_isWriting]))]) 0 0
set_option maxHeartbeats 4000000 in
set_option maxRecDepth 100000 in
theorem walkX9_hair {l : Launch} {D : va_G} {cI cZ : ClassId} {PX9_hair : Int32 → Int32 → Prop} {QX9_hair : Int32 → Int32 → Int32 → Int32 → Prop} {PX9_in : Int64 → Int64 → Int64 → Prop} {QX9_in : Int64 → Int64 → Int64 → Int32 → Prop} (kX9_in : KX9_in l D cI cZ PX9_in QX9_in) (hvc : ∀ (p0 : Int32) (v_chest : Int32), PX9_hair p0 v_chest → (PX9_in (p0.toInt64) (0 : Int64) (999 : Int64) ∧ (∀ r_1 : Int32, QX9_in (p0.toInt64) (0 : Int64) (999 : Int64) r_1 → ((¬ r_1 = 0 → (QX9_hair p0 v_chest v_chest p0)) ∧ (r_1 = 0 → (QX9_hair p0 v_chest (-2 : Int32) v_chest)))))) : KX9_hair l D cI cZ PX9_hair QX9_hair := by
  intro sz h_this h_this_wool h_this_stitches h_this_place h_this_sightSundays h_this_sightWool h_this_pad h_this_act h_this_which h_this_much h_this_had h_this_rows h_this_groups h_this_covers h_this_byWool h_this_wins h_this_kept h_this_isKept p0 v_present v_chest v_years v_sights v_padMany v_acts v_sweptMany v_badAct v_badWhy v_sweptAct v_sweptWhich v_keptAt v_isWriting hpre
  have vc := hvc p0 v_chest hpre
  clear hvc
  refine Met.ofW (cc := cX9_hair) (maxL := 3) (ret := (some .int)) (by decide) rfl ?_
  intro p e s m args below meth c s₁ B hml hv
  obtain ⟨rfl, hsz, hP, hK, hD0⟩ := hv
  have hx := B.exec
  have hb := B.bytes
  have hr := B.returns
  have hts := atoms_spec (ws := wsX9_hair) B.pre
  have hown : s.vm.findClass RX9 = some m.cls := findClass_of_methodNamed B.named
  have hlocks := B.notSynchronized
  subst hsz
  have hD := hD0.self (sz := s.heap.size)
  generalize hAe : va_A [(h_this, .inr (9, [.int v_present, .ref h_this_wool, .ref h_this_stitches, .ref h_this_place, .int v_chest, .int v_years, .ref h_this_sightSundays, .ref h_this_sightWool, .int v_sights, .ref h_this_pad, .int v_padMany, .ref h_this_act, .ref h_this_which, .ref h_this_much, .int v_acts, .int v_sweptMany, .ref h_this_had, .int v_badAct, .int v_badWhy, .int v_sweptAct, .int v_sweptWhich, .ref h_this_rows, .ref h_this_groups, .ref h_this_covers, .ref h_this_byWool, .ref h_this_wins, .ref h_this_kept, .ref h_this_isKept, .int v_keptAt, .int v_isWriting]))] s.heap.size = A at hD ⊢
  have hA : ∀ q : Nat, s.heap.size ≤ q → A q := fun q h => by rw [← hAe]; exact Or.inr h
  have hS : va_S A s.heap s.heap [] := va_S.rf
  have hP : va_P D vwCl [(h_this, .inr (9, [.int v_present, .ref h_this_wool, .ref h_this_stitches, .ref h_this_place, .int v_chest, .int v_years, .ref h_this_sightSundays, .ref h_this_sightWool, .int v_sights, .ref h_this_pad, .int v_padMany, .ref h_this_act, .ref h_this_which, .ref h_this_much, .int v_acts, .int v_sweptMany, .ref h_this_had, .int v_badAct, .int v_badWhy, .int v_sweptAct, .int v_sweptWhich, .ref h_this_rows, .ref h_this_groups, .ref h_this_covers, .ref h_this_byWool, .ref h_this_wins, .ref h_this_kept, .ref h_this_isKept, .int v_keptAt, .int v_isWriting]))] s.heap := hP
  have hl := lv_entry ([.ref h_this, .int p0]) (n := 3) (Nat.le_of_ble_eq_true rfl)
  rw [lg_entry_eq]
  generalize (lg_sl ([.ref h_this, .int p0]) ++ List.replicate (3 - (lg_sl ([.ref h_this, .int p0])).length) Slot.unset).toArray = ls at hl ⊢
  have hl : lv_has ls 3 [(0, .ref h_this), (1, .int p0)] := hl
  refine lv_iload_n hx hb dX9_hair_0 rfl (lv_at hl 1 rfl) ?_
  refine lv_i2l hx hb dX9_hair_1 rfl ?_
  refine lv_lconst (v := (0 : Int64)) hx hb dX9_hair_2 (by decide) ?_
  refine lv_ldc2 (v := (999 : Int64)) hx hb hown (hts _ mwX9_hair_1) dX9_hair_3 ?_
  refine kj0_i (rest := []) (kS ⟨hx, hb, hml, hown, hts⟩ (kX9_in _ (p0.toInt64) (0 : Int64) (999 : Int64) vc.1) (va_cwS 3 hts gX9_hair_X9_in rfl rfl rfl (by decide +kernel) ⟨(Nat.le_of_ble_eq_true rfl), (Nat.le_of_ble_eq_true rfl)⟩) hK rfl rfl hl.1 (Nat.le_of_ble_eq_true rfl) dX9_hair_6 ⟨(Nat.le_of_ble_eq_true rfl), (Nat.le_of_ble_eq_true rfl)⟩) hP hS hA (fun r_1 H locs hq_ hP hS => ?_)
  replace vc := vc.2 r_1 hq_
  have hP : va_P D vwCl [(h_this, .inr (9, [.int v_present, .ref h_this_wool, .ref h_this_stitches, .ref h_this_place, .int v_chest, .int v_years, .ref h_this_sightSundays, .ref h_this_sightWool, .int v_sights, .ref h_this_pad, .int v_padMany, .ref h_this_act, .ref h_this_which, .ref h_this_much, .int v_acts, .int v_sweptMany, .ref h_this_had, .int v_badAct, .int v_badWhy, .int v_sweptAct, .int v_sweptWhich, .ref h_this_rows, .ref h_this_groups, .ref h_this_covers, .ref h_this_byWool, .ref h_this_wins, .ref h_this_kept, .ref h_this_isKept, .int v_keptAt, .int v_isWriting]))] H := hP
  refine lv_if_ne (tgt := 15) hx hb dX9_hair_9 (by decide) (fun c_ => ?_) (fun c_ => ?_)
  · replace vc := vc.1 c_
    refine lv_aload_n hx hb dX9_hair_15 rfl (lv_at hl 0 rfl) ?_
    refine va_get (D := D) (ci := 9) (v := .int v_chest) (C := RX9) (T := TX9) (N := 30) hx hb hts mcX9_hair_X9 hown hK.1 hP 0 rfl rfl 4 (by decide) (hts _ mwX9_hair_2) (fun _ h9 => h9) rfl dX9_hair_16 ?_
    refine lv_istore_n (lv' := [(2, .int v_chest), (0, .ref h_this), (1, .int p0)]) hx hb dX9_hair_19 rfl hl (by decide) rfl (fun ls hl => ?_)
    refine lv_aload_n hx hb dX9_hair_20 rfl (lv_at hl 1 rfl) ?_
    refine lv_iload_n hx hb dX9_hair_21 rfl (lv_at hl 2 rfl) ?_
    refine va_put (D := D) (ci := 9) (v := .int p0) (ty := .int) (C := RX9) (T := TX9) (N := 30) hx hb hts mcX9_hair_X9 tyX9 tyX9_ok nmX9 hown hK.1 hP hD hS 0 rfl rfl 4 (by decide) (hts _ mwX9_hair_2) (fun _ h9 => h9) rfl (by decide +kernel) rfl rfl (Nat.le_of_ble_eq_true rfl) dX9_hair_22 (fun H locs hP hD hS => ?_)
    have hP : va_P D vwCl [(h_this, .inr (9, [.int v_present, .ref h_this_wool, .ref h_this_stitches, .ref h_this_place, .int p0, .int v_years, .ref h_this_sightSundays, .ref h_this_sightWool, .int v_sights, .ref h_this_pad, .int v_padMany, .ref h_this_act, .ref h_this_which, .ref h_this_much, .int v_acts, .int v_sweptMany, .ref h_this_had, .int v_badAct, .int v_badWhy, .int v_sweptAct, .int v_sweptWhich, .ref h_this_rows, .ref h_this_groups, .ref h_this_covers, .ref h_this_byWool, .ref h_this_wins, .ref h_this_kept, .ref h_this_isKept, .int v_keptAt, .int v_isWriting]))] H := hP
    have hD : va_D A [(h_this, .inr (9, [.int v_present, .ref h_this_wool, .ref h_this_stitches, .ref h_this_place, .int p0, .int v_years, .ref h_this_sightSundays, .ref h_this_sightWool, .int v_sights, .ref h_this_pad, .int v_padMany, .ref h_this_act, .ref h_this_which, .ref h_this_much, .int v_acts, .int v_sweptMany, .ref h_this_had, .int v_badAct, .int v_badWhy, .int v_sweptAct, .int v_sweptWhich, .ref h_this_rows, .ref h_this_groups, .ref h_this_covers, .ref h_this_byWool, .ref h_this_wins, .ref h_this_kept, .ref h_this_isKept, .int v_keptAt, .int v_isWriting]))] := hD
    refine lv_iload_n hx hb dX9_hair_25 rfl (lv_at hl 0 rfl) ?_
    exact W.iret (v := v_chest) hx hb hr (fun t ht hW => ⟨⟨v_chest, (p0), rfl, vc, QB_mk (hP.sub [0] rfl) (hD.sub [0] rfl rfl) ht⟩, hS.F ht⟩) hS.2.2 dX9_hair_26
  · replace vc := vc.2 c_
    refine lv_bipush (v := (-2 : Int32)) hx hb dX9_hair_12 (by decide) ?_
    exact W.iret (v := (-2 : Int32)) hx hb hr (fun t ht hW => ⟨⟨(-2 : Int32), (v_chest), rfl, vc, QB_mk (hP.sub [0] rfl) (hD.sub [0] rfl rfl) ht⟩, hS.F ht⟩) hS.2.2 dX9_hair_14

theorem mwX9_change_1 : Cond.fieldLink RX9 16 "HassockSeeModel" "place" "[I" ∈ wsX9_change := List.mem_of_getElem? (i := 1) rfl
theorem mcX9_change_X9 : ∀ w ∈ u_ws RX9 TX9 30, w ∈ wsX9_change := fun _ h => (List.mem_cons_of_mem _ (List.mem_append_right _ h))
def KX9_change (l : Launch) (D : va_G) (cI cZ : ClassId) (P : Int32 → Int32 → (Nat → Int32) → Prop) (Q : Int32 → Int32 → (Nat → Int32) → (Nat → Int32) → Prop) : Prop := ∀ (sz : Nat) (h_this h_this_wool h_this_stitches h_this_place h_this_sightSundays h_this_sightWool h_this_pad h_this_act h_this_which h_this_much h_this_had h_this_rows h_this_groups h_this_covers h_this_byWool h_this_wins h_this_kept h_this_isKept : Nat) (p0 : Int32) (p1 : Int32) (v_present : Int32) (v_chest : Int32) (v_years : Int32) (v_sights : Int32) (v_padMany : Int32) (v_acts : Int32) (v_sweptMany : Int32) (v_badAct : Int32) (v_badWhy : Int32) (v_sweptAct : Int32) (v_sweptWhich : Int32) (v_keptAt : Int32) (v_isWriting : Int32) (v_place : (Nat → Int32)), P p0 p1 v_place → MV l yX9_change wsX9_change ({ frames := 0, cells := 0, slots := 0, locals := 0 }) [.ref h_this, .int p0, .int p1] D cI cZ sz [(h_this, .inr (9, [.int v_present, .ref h_this_wool, .ref h_this_stitches, .ref h_this_place, .int v_chest, .int v_years, .ref h_this_sightSundays, .ref h_this_sightWool, .int v_sights, .ref h_this_pad, .int v_padMany, .ref h_this_act, .ref h_this_which, .ref h_this_much, .int v_acts, .int v_sweptMany, .ref h_this_had, .int v_badAct, .int v_badWhy, .int v_sweptAct, .int v_sweptWhich, .ref h_this_rows, .ref h_this_groups, .ref h_this_covers, .ref h_this_byWool, .ref h_this_wins, .ref h_this_kept, .ref h_this_isKept, .int v_keptAt, .int v_isWriting])), (h_this_place, .inl (cI, 10, .inl v_place))] (fun (u : (Nat → Int32)) => Q p0 p1 v_place u) (fun u => [(h_this, .inr (9, [.int v_present, .ref h_this_wool, .ref h_this_stitches, .ref h_this_place, .int v_chest, .int v_years, .ref h_this_sightSundays, .ref h_this_sightWool, .int v_sights, .ref h_this_pad, .int v_padMany, .ref h_this_act, .ref h_this_which, .ref h_this_much, .int v_acts, .int v_sweptMany, .ref h_this_had, .int v_badAct, .int v_badWhy, .int v_sweptAct, .int v_sweptWhich, .ref h_this_rows, .ref h_this_groups, .ref h_this_covers, .ref h_this_byWool, .ref h_this_wins, .ref h_this_kept, .ref h_this_isKept, .int v_keptAt, .int v_isWriting])), (h_this_place, .inl (cI, 10, .inl u))]) 0 0
set_option maxHeartbeats 4000000 in
set_option maxRecDepth 100000 in
theorem walkX9_change {l : Launch} {D : va_G} {cI cZ : ClassId} {PX9_change : Int32 → Int32 → (Nat → Int32) → Prop} {QX9_change : Int32 → Int32 → (Nat → Int32) → (Nat → Int32) → Prop}  (hvc : ∀ (p0 : Int32) (p1 : Int32) (v_place : (Nat → Int32)), PX9_change p0 p1 v_place → (vp_in p0 10 ∧ (∀ x_2 : Int32, x_2 = (v_place (p0).toNatClampNeg) → (vp_in p1 10 ∧ (∀ x_4 : Int32, x_4 = (v_place (p1).toNatClampNeg) → (vp_in p0 10 ∧ (vp_in p1 10 ∧ (QX9_change p0 p1 v_place (upd (upd v_place (p0).toNatClampNeg x_4) (p1).toNatClampNeg x_2))))))))) : KX9_change l D cI cZ PX9_change QX9_change := by
  intro sz h_this h_this_wool h_this_stitches h_this_place h_this_sightSundays h_this_sightWool h_this_pad h_this_act h_this_which h_this_much h_this_had h_this_rows h_this_groups h_this_covers h_this_byWool h_this_wins h_this_kept h_this_isKept p0 p1 v_present v_chest v_years v_sights v_padMany v_acts v_sweptMany v_badAct v_badWhy v_sweptAct v_sweptWhich v_keptAt v_isWriting v_place hpre
  have vc := hvc p0 p1 v_place hpre
  clear hvc
  refine Met.ofW (cc := cX9_change) (maxL := 4) (ret := none) (by decide) rfl ?_
  intro p e s m args below meth c s₁ B hml hv
  obtain ⟨rfl, hsz, hP, hK, hD0⟩ := hv
  have hx := B.exec
  have hb := B.bytes
  have hr := B.returns
  have hts := atoms_spec (ws := wsX9_change) B.pre
  have hown : s.vm.findClass RX9 = some m.cls := findClass_of_methodNamed B.named
  have hlocks := B.notSynchronized
  subst hsz
  have hD := hD0.self (sz := s.heap.size)
  generalize hAe : va_A [(h_this, .inr (9, [.int v_present, .ref h_this_wool, .ref h_this_stitches, .ref h_this_place, .int v_chest, .int v_years, .ref h_this_sightSundays, .ref h_this_sightWool, .int v_sights, .ref h_this_pad, .int v_padMany, .ref h_this_act, .ref h_this_which, .ref h_this_much, .int v_acts, .int v_sweptMany, .ref h_this_had, .int v_badAct, .int v_badWhy, .int v_sweptAct, .int v_sweptWhich, .ref h_this_rows, .ref h_this_groups, .ref h_this_covers, .ref h_this_byWool, .ref h_this_wins, .ref h_this_kept, .ref h_this_isKept, .int v_keptAt, .int v_isWriting])), (h_this_place, .inl (cI, 10, .inl v_place))] s.heap.size = A at hD ⊢
  have hA : ∀ q : Nat, s.heap.size ≤ q → A q := fun q h => by rw [← hAe]; exact Or.inr h
  have hS : va_S A s.heap s.heap [] := va_S.rf
  have hP : va_P D vwCl [(h_this, .inr (9, [.int v_present, .ref h_this_wool, .ref h_this_stitches, .ref h_this_place, .int v_chest, .int v_years, .ref h_this_sightSundays, .ref h_this_sightWool, .int v_sights, .ref h_this_pad, .int v_padMany, .ref h_this_act, .ref h_this_which, .ref h_this_much, .int v_acts, .int v_sweptMany, .ref h_this_had, .int v_badAct, .int v_badWhy, .int v_sweptAct, .int v_sweptWhich, .ref h_this_rows, .ref h_this_groups, .ref h_this_covers, .ref h_this_byWool, .ref h_this_wins, .ref h_this_kept, .ref h_this_isKept, .int v_keptAt, .int v_isWriting])), (h_this_place, .inl (cI, 10, .inl v_place))] s.heap := hP
  have hl := lv_entry ([.ref h_this, .int p0, .int p1]) (n := 4) (Nat.le_of_ble_eq_true rfl)
  rw [lg_entry_eq]
  generalize (lg_sl ([.ref h_this, .int p0, .int p1]) ++ List.replicate (4 - (lg_sl ([.ref h_this, .int p0, .int p1])).length) Slot.unset).toArray = ls at hl ⊢
  have hl : lv_has ls 4 [(0, .ref h_this), (1, .int p0), (2, .int p1)] := hl
  refine lv_aload_n hx hb dX9_change_0 rfl (lv_at hl 0 rfl) ?_
  refine va_get (D := D) (ci := 9) (v := .ref h_this_place) (C := RX9) (T := TX9) (N := 30) hx hb hts mcX9_change_X9 hown hK.1 hP 0 rfl rfl 3 (by decide) (hts _ mwX9_change_1) (fun _ h9 => h9) rfl dX9_change_1 ?_
  refine lv_iload_n hx hb dX9_change_4 rfl (lv_at hl 1 rfl) ?_
  have hi_1 := vc.1
  replace vc := vc.2
  refine va_iald hx hb hK.1 hP 1 0 rfl rfl hi_1 dX9_change_5 ?_
  refine lv_topi (fun x_2 ex_2 => ?_)
  replace vc := vc x_2 ex_2
  refine lv_istore_n (lv' := [(3, .int x_2), (0, .ref h_this), (1, .int p0), (2, .int p1)]) hx hb dX9_change_6 rfl hl (by decide) rfl (fun ls hl => ?_)
  refine lv_aload_n hx hb dX9_change_7 rfl (lv_at hl 1 rfl) ?_
  refine va_get (D := D) (ci := 9) (v := .ref h_this_place) (C := RX9) (T := TX9) (N := 30) hx hb hts mcX9_change_X9 hown hK.1 hP 0 rfl rfl 3 (by decide) (hts _ mwX9_change_1) (fun _ h9 => h9) rfl dX9_change_8 ?_
  refine lv_iload_n hx hb dX9_change_11 rfl (lv_at hl 2 rfl) ?_
  refine lv_aload_n hx hb dX9_change_12 rfl (lv_at hl 1 rfl) ?_
  refine va_get (D := D) (ci := 9) (v := .ref h_this_place) (C := RX9) (T := TX9) (N := 30) hx hb hts mcX9_change_X9 hown hK.1 hP 0 rfl rfl 3 (by decide) (hts _ mwX9_change_1) (fun _ h9 => h9) rfl dX9_change_13 ?_
  refine lv_iload_n hx hb dX9_change_16 rfl (lv_at hl 3 rfl) ?_
  have hi_3 := vc.1
  replace vc := vc.2
  refine va_iald hx hb hK.1 hP 1 0 rfl rfl hi_3 dX9_change_17 ?_
  refine lv_topi (fun x_4 ex_4 => ?_)
  replace vc := vc x_4 ex_4
  have hi_5 := vc.1
  replace vc := vc.2
  refine va_iast hx hb hK.1 hP hD hS 1 0 rfl rfl hi_5 dX9_change_18 (fun H locs hP hD hS => ?_)
  have hP : va_P D vwCl [(h_this, .inr (9, [.int v_present, .ref h_this_wool, .ref h_this_stitches, .ref h_this_place, .int v_chest, .int v_years, .ref h_this_sightSundays, .ref h_this_sightWool, .int v_sights, .ref h_this_pad, .int v_padMany, .ref h_this_act, .ref h_this_which, .ref h_this_much, .int v_acts, .int v_sweptMany, .ref h_this_had, .int v_badAct, .int v_badWhy, .int v_sweptAct, .int v_sweptWhich, .ref h_this_rows, .ref h_this_groups, .ref h_this_covers, .ref h_this_byWool, .ref h_this_wins, .ref h_this_kept, .ref h_this_isKept, .int v_keptAt, .int v_isWriting])), (h_this_place, .inl (cI, 10, .inl (upd v_place (p0).toNatClampNeg x_4)))] H := hP
  have hD : va_D A [(h_this, .inr (9, [.int v_present, .ref h_this_wool, .ref h_this_stitches, .ref h_this_place, .int v_chest, .int v_years, .ref h_this_sightSundays, .ref h_this_sightWool, .int v_sights, .ref h_this_pad, .int v_padMany, .ref h_this_act, .ref h_this_which, .ref h_this_much, .int v_acts, .int v_sweptMany, .ref h_this_had, .int v_badAct, .int v_badWhy, .int v_sweptAct, .int v_sweptWhich, .ref h_this_rows, .ref h_this_groups, .ref h_this_covers, .ref h_this_byWool, .ref h_this_wins, .ref h_this_kept, .ref h_this_isKept, .int v_keptAt, .int v_isWriting])), (h_this_place, .inl (cI, 10, .inl (upd v_place (p0).toNatClampNeg x_4)))] := hD
  refine lv_aload_n hx hb dX9_change_19 rfl (lv_at hl 1 rfl) ?_
  refine va_get (D := D) (ci := 9) (v := .ref h_this_place) (C := RX9) (T := TX9) (N := 30) hx hb hts mcX9_change_X9 hown hK.1 hP 0 rfl rfl 3 (by decide) (hts _ mwX9_change_1) (fun _ h9 => h9) rfl dX9_change_20 ?_
  refine lv_iload_n hx hb dX9_change_23 rfl (lv_at hl 3 rfl) ?_
  refine lv_iload_n hx hb dX9_change_24 rfl (lv_at hl 0 rfl) ?_
  have hi_6 := vc.1
  replace vc := vc.2
  refine va_iast hx hb hK.1 hP hD hS 1 0 rfl rfl hi_6 dX9_change_25 (fun H locs hP hD hS => ?_)
  have hP : va_P D vwCl [(h_this, .inr (9, [.int v_present, .ref h_this_wool, .ref h_this_stitches, .ref h_this_place, .int v_chest, .int v_years, .ref h_this_sightSundays, .ref h_this_sightWool, .int v_sights, .ref h_this_pad, .int v_padMany, .ref h_this_act, .ref h_this_which, .ref h_this_much, .int v_acts, .int v_sweptMany, .ref h_this_had, .int v_badAct, .int v_badWhy, .int v_sweptAct, .int v_sweptWhich, .ref h_this_rows, .ref h_this_groups, .ref h_this_covers, .ref h_this_byWool, .ref h_this_wins, .ref h_this_kept, .ref h_this_isKept, .int v_keptAt, .int v_isWriting])), (h_this_place, .inl (cI, 10, .inl (upd (upd v_place (p0).toNatClampNeg x_4) (p1).toNatClampNeg x_2)))] H := hP
  have hD : va_D A [(h_this, .inr (9, [.int v_present, .ref h_this_wool, .ref h_this_stitches, .ref h_this_place, .int v_chest, .int v_years, .ref h_this_sightSundays, .ref h_this_sightWool, .int v_sights, .ref h_this_pad, .int v_padMany, .ref h_this_act, .ref h_this_which, .ref h_this_much, .int v_acts, .int v_sweptMany, .ref h_this_had, .int v_badAct, .int v_badWhy, .int v_sweptAct, .int v_sweptWhich, .ref h_this_rows, .ref h_this_groups, .ref h_this_covers, .ref h_this_byWool, .ref h_this_wins, .ref h_this_kept, .ref h_this_isKept, .int v_keptAt, .int v_isWriting])), (h_this_place, .inl (cI, 10, .inl (upd (upd v_place (p0).toNatClampNeg x_4) (p1).toNatClampNeg x_2)))] := hD
  exact W.vret hx hb hr (fun t ht hW => ⟨⟨((upd (upd v_place (p0).toNatClampNeg x_4) (p1).toNatClampNeg x_2)), rfl, vc, QB_mk (hP.sub [0, 1] rfl) (hD.sub [0, 1] rfl rfl) ht⟩, hS.F ht⟩) hS.2.2 dX9_change_26

theorem mwX9_swap_1 : Cond.fieldLink RX9 16 "HassockSeeModel" "place" "[I" ∈ wsX9_swap := List.mem_of_getElem? (i := 1) rfl
theorem mcX9_swap_X9 : ∀ w ∈ u_ws RX9 TX9 30, w ∈ wsX9_swap := fun _ h => (List.mem_cons_of_mem _ (List.mem_append_right _ h))
def KX9_swap (l : Launch) (D : va_G) (cI cZ : ClassId) (P : Int32 → Int32 → (Nat → Int32) → Prop) (Q : Int32 → Int32 → (Nat → Int32) → Int32 → (Nat → Int32) → Prop) : Prop := ∀ (sz : Nat) (h_this h_this_wool h_this_stitches h_this_place h_this_sightSundays h_this_sightWool h_this_pad h_this_act h_this_which h_this_much h_this_had h_this_rows h_this_groups h_this_covers h_this_byWool h_this_wins h_this_kept h_this_isKept : Nat) (p0 : Int32) (p1 : Int32) (v_present : Int32) (v_chest : Int32) (v_years : Int32) (v_sights : Int32) (v_padMany : Int32) (v_acts : Int32) (v_sweptMany : Int32) (v_badAct : Int32) (v_badWhy : Int32) (v_sweptAct : Int32) (v_sweptWhich : Int32) (v_keptAt : Int32) (v_isWriting : Int32) (v_place : (Nat → Int32)), P p0 p1 v_place → MI l yX9_swap wsX9_swap ({ frames := 2, cells := 0, slots := 0, locals := 45 }) [.ref h_this, .int p0, .int p1] D cI cZ sz [(h_this, .inr (9, [.int v_present, .ref h_this_wool, .ref h_this_stitches, .ref h_this_place, .int v_chest, .int v_years, .ref h_this_sightSundays, .ref h_this_sightWool, .int v_sights, .ref h_this_pad, .int v_padMany, .ref h_this_act, .ref h_this_which, .ref h_this_much, .int v_acts, .int v_sweptMany, .ref h_this_had, .int v_badAct, .int v_badWhy, .int v_sweptAct, .int v_sweptWhich, .ref h_this_rows, .ref h_this_groups, .ref h_this_covers, .ref h_this_byWool, .ref h_this_wins, .ref h_this_kept, .ref h_this_isKept, .int v_keptAt, .int v_isWriting])), (h_this_place, .inl (cI, 10, .inl v_place))] (fun r (u : (Nat → Int32)) => Q p0 p1 v_place r u) (fun u => [(h_this, .inr (9, [.int v_present, .ref h_this_wool, .ref h_this_stitches, .ref h_this_place, .int v_chest, .int v_years, .ref h_this_sightSundays, .ref h_this_sightWool, .int v_sights, .ref h_this_pad, .int v_padMany, .ref h_this_act, .ref h_this_which, .ref h_this_much, .int v_acts, .int v_sweptMany, .ref h_this_had, .int v_badAct, .int v_badWhy, .int v_sweptAct, .int v_sweptWhich, .ref h_this_rows, .ref h_this_groups, .ref h_this_covers, .ref h_this_byWool, .ref h_this_wins, .ref h_this_kept, .ref h_this_isKept, .int v_keptAt, .int v_isWriting])), (h_this_place, .inl (cI, 10, .inl u))]) 0 0
set_option maxHeartbeats 4000000 in
set_option maxRecDepth 100000 in
theorem walkX9_swap {l : Launch} {D : va_G} {cI cZ : ClassId} {PX9_swap : Int32 → Int32 → (Nat → Int32) → Prop} {QX9_swap : Int32 → Int32 → (Nat → Int32) → Int32 → (Nat → Int32) → Prop} {PX9_isHassock : Int32 → Prop} {QX9_isHassock : Int32 → Int32 → Prop} {PX9_change : Int32 → Int32 → (Nat → Int32) → Prop} {QX9_change : Int32 → Int32 → (Nat → Int32) → (Nat → Int32) → Prop} (kX9_isHassock : KX9_isHassock l D cI cZ PX9_isHassock QX9_isHassock) (kX9_change : KX9_change l D cI cZ PX9_change QX9_change) (hvc : ∀ (p0 : Int32) (p1 : Int32) (v_place : (Nat → Int32)), PX9_swap p0 p1 v_place → (PX9_isHassock p0 ∧ (∀ r_1 : Int32, QX9_isHassock p0 r_1 → ((r_1 = 0 → (QX9_swap p0 p1 v_place (-1 : Int32) v_place)) ∧ (¬ r_1 = 0 → (PX9_isHassock p1 ∧ (∀ r_2 : Int32, QX9_isHassock p1 r_2 → ((r_2 = 0 → (QX9_swap p0 p1 v_place (-1 : Int32) v_place)) ∧ (¬ r_2 = 0 → ((¬ p0 = p1 → (PX9_change p0 p1 v_place ∧ (∀ (f_3 : (Nat → Int32)), QX9_change p0 p1 v_place f_3 → (vp_in p0 10 ∧ (QX9_swap p0 p1 v_place (f_3 (p0).toNatClampNeg) f_3))))) ∧ (p0 = p1 → (QX9_swap p0 p1 v_place (-1 : Int32) v_place)))))))))))) : KX9_swap l D cI cZ PX9_swap QX9_swap := by
  intro sz h_this h_this_wool h_this_stitches h_this_place h_this_sightSundays h_this_sightWool h_this_pad h_this_act h_this_which h_this_much h_this_had h_this_rows h_this_groups h_this_covers h_this_byWool h_this_wins h_this_kept h_this_isKept p0 p1 v_present v_chest v_years v_sights v_padMany v_acts v_sweptMany v_badAct v_badWhy v_sweptAct v_sweptWhich v_keptAt v_isWriting v_place hpre
  have vc := hvc p0 p1 v_place hpre
  clear hvc
  refine Met.ofW (cc := cX9_swap) (maxL := 3) (ret := (some .int)) (by decide) rfl ?_
  intro p e s m args below meth c s₁ B hml hv
  obtain ⟨rfl, hsz, hP, hK, hD0⟩ := hv
  have hx := B.exec
  have hb := B.bytes
  have hr := B.returns
  have hts := atoms_spec (ws := wsX9_swap) B.pre
  have hown : s.vm.findClass RX9 = some m.cls := findClass_of_methodNamed B.named
  have hlocks := B.notSynchronized
  subst hsz
  have hD := hD0.self (sz := s.heap.size)
  generalize hAe : va_A [(h_this, .inr (9, [.int v_present, .ref h_this_wool, .ref h_this_stitches, .ref h_this_place, .int v_chest, .int v_years, .ref h_this_sightSundays, .ref h_this_sightWool, .int v_sights, .ref h_this_pad, .int v_padMany, .ref h_this_act, .ref h_this_which, .ref h_this_much, .int v_acts, .int v_sweptMany, .ref h_this_had, .int v_badAct, .int v_badWhy, .int v_sweptAct, .int v_sweptWhich, .ref h_this_rows, .ref h_this_groups, .ref h_this_covers, .ref h_this_byWool, .ref h_this_wins, .ref h_this_kept, .ref h_this_isKept, .int v_keptAt, .int v_isWriting])), (h_this_place, .inl (cI, 10, .inl v_place))] s.heap.size = A at hD ⊢
  have hA : ∀ q : Nat, s.heap.size ≤ q → A q := fun q h => by rw [← hAe]; exact Or.inr h
  have hS : va_S A s.heap s.heap [] := va_S.rf
  have hP : va_P D vwCl [(h_this, .inr (9, [.int v_present, .ref h_this_wool, .ref h_this_stitches, .ref h_this_place, .int v_chest, .int v_years, .ref h_this_sightSundays, .ref h_this_sightWool, .int v_sights, .ref h_this_pad, .int v_padMany, .ref h_this_act, .ref h_this_which, .ref h_this_much, .int v_acts, .int v_sweptMany, .ref h_this_had, .int v_badAct, .int v_badWhy, .int v_sweptAct, .int v_sweptWhich, .ref h_this_rows, .ref h_this_groups, .ref h_this_covers, .ref h_this_byWool, .ref h_this_wins, .ref h_this_kept, .ref h_this_isKept, .int v_keptAt, .int v_isWriting])), (h_this_place, .inl (cI, 10, .inl v_place))] s.heap := hP
  have hl := lv_entry ([.ref h_this, .int p0, .int p1]) (n := 3) (Nat.le_of_ble_eq_true rfl)
  rw [lg_entry_eq]
  generalize (lg_sl ([.ref h_this, .int p0, .int p1]) ++ List.replicate (3 - (lg_sl ([.ref h_this, .int p0, .int p1])).length) Slot.unset).toArray = ls at hl ⊢
  have hl : lv_has ls 3 [(0, .ref h_this), (1, .int p0), (2, .int p1)] := hl
  refine lv_iload_n hx hb dX9_swap_0 rfl (lv_at hl 1 rfl) ?_
  refine kj0_i (rest := []) (kS ⟨hx, hb, hml, hown, hts⟩ (kX9_isHassock _ p0 vc.1) (va_cwS 1 hts gX9_swap_X9_isHassock rfl rfl rfl (by decide +kernel) ⟨(Nat.le_of_ble_eq_true rfl), (Nat.le_of_ble_eq_true rfl)⟩) hK rfl rfl hl.1 (Nat.le_of_ble_eq_true rfl) dX9_swap_1 ⟨(Nat.le_of_ble_eq_true rfl), (Nat.le_of_ble_eq_true rfl)⟩) hP hS hA (fun r_1 H locs hq_ hP hS => ?_)
  replace vc := vc.2 r_1 hq_
  have hP : va_P D vwCl [(h_this, .inr (9, [.int v_present, .ref h_this_wool, .ref h_this_stitches, .ref h_this_place, .int v_chest, .int v_years, .ref h_this_sightSundays, .ref h_this_sightWool, .int v_sights, .ref h_this_pad, .int v_padMany, .ref h_this_act, .ref h_this_which, .ref h_this_much, .int v_acts, .int v_sweptMany, .ref h_this_had, .int v_badAct, .int v_badWhy, .int v_sweptAct, .int v_sweptWhich, .ref h_this_rows, .ref h_this_groups, .ref h_this_covers, .ref h_this_byWool, .ref h_this_wins, .ref h_this_kept, .ref h_this_isKept, .int v_keptAt, .int v_isWriting])), (h_this_place, .inl (cI, 10, .inl v_place))] H := hP
  refine lv_if_eq (tgt := 19) hx hb dX9_swap_4 (by decide) (fun c_ => ?_) (fun c_ => ?_)
  · replace vc := vc.1 c_
    refine lv_iconst (v := (-1 : Int32)) hx hb dX9_swap_19 (by decide) ?_
    exact W.iret (v := (-1 : Int32)) hx hb hr (fun t ht hW => ⟨⟨(-1 : Int32), (v_place), rfl, vc, QB_mk (hP.sub [0, 1] rfl) (hD.sub [0, 1] rfl rfl) ht⟩, hS.F ht⟩) hS.2.2 dX9_swap_20
  · replace vc := vc.2 c_
    refine lv_iload_n hx hb dX9_swap_7 rfl (lv_at hl 2 rfl) ?_
    refine kj0_i (rest := []) (kS ⟨hx, hb, hml, hown, hts⟩ (kX9_isHassock _ p1 vc.1) (va_cwS 1 hts gX9_swap_X9_isHassock rfl rfl rfl (by decide +kernel) ⟨(Nat.le_of_ble_eq_true rfl), (Nat.le_of_ble_eq_true rfl)⟩) hK rfl rfl hl.1 (Nat.le_of_ble_eq_true rfl) dX9_swap_8 ⟨(Nat.le_of_ble_eq_true rfl), (Nat.le_of_ble_eq_true rfl)⟩) hP hS hA (fun r_2 H locs hq_ hP hS => ?_)
    replace vc := vc.2 r_2 hq_
    have hP : va_P D vwCl [(h_this, .inr (9, [.int v_present, .ref h_this_wool, .ref h_this_stitches, .ref h_this_place, .int v_chest, .int v_years, .ref h_this_sightSundays, .ref h_this_sightWool, .int v_sights, .ref h_this_pad, .int v_padMany, .ref h_this_act, .ref h_this_which, .ref h_this_much, .int v_acts, .int v_sweptMany, .ref h_this_had, .int v_badAct, .int v_badWhy, .int v_sweptAct, .int v_sweptWhich, .ref h_this_rows, .ref h_this_groups, .ref h_this_covers, .ref h_this_byWool, .ref h_this_wins, .ref h_this_kept, .ref h_this_isKept, .int v_keptAt, .int v_isWriting])), (h_this_place, .inl (cI, 10, .inl v_place))] H := hP
    refine lv_if_eq (tgt := 19) hx hb dX9_swap_11 (by decide) (fun c_ => ?_) (fun c_ => ?_)
    · replace vc := vc.1 c_
      refine lv_iconst (v := (-1 : Int32)) hx hb dX9_swap_19 (by decide) ?_
      exact W.iret (v := (-1 : Int32)) hx hb hr (fun t ht hW => ⟨⟨(-1 : Int32), (v_place), rfl, vc, QB_mk (hP.sub [0, 1] rfl) (hD.sub [0, 1] rfl rfl) ht⟩, hS.F ht⟩) hS.2.2 dX9_swap_20
    · replace vc := vc.2 c_
      refine lv_iload_n hx hb dX9_swap_14 rfl (lv_at hl 1 rfl) ?_
      refine lv_iload_n hx hb dX9_swap_15 rfl (lv_at hl 2 rfl) ?_
      refine lv_icmp_ne (tgt := 21) hx hb dX9_swap_16 (by decide) (fun c_ => ?_) (fun c_ => ?_)
      · replace vc := vc.1 c_
        refine lv_aload_n hx hb dX9_swap_21 rfl (lv_at hl 0 rfl) ?_
        refine lv_iload_n hx hb dX9_swap_22 rfl (lv_at hl 1 rfl) ?_
        refine lv_iload_n hx hb dX9_swap_23 rfl (lv_at hl 2 rfl) ?_
        refine kj_v (wr := []) (rest := []) (kV ⟨hx, hb, hml, hown, hts⟩ (kX9_change _ h_this h_this_wool h_this_stitches h_this_place h_this_sightSundays h_this_sightWool h_this_pad h_this_act h_this_which h_this_much h_this_had h_this_rows h_this_groups h_this_covers h_this_byWool h_this_wins h_this_kept h_this_isKept p0 p1 v_present v_chest v_years v_sights v_padMany v_acts v_sweptMany v_badAct v_badWhy v_sweptAct v_sweptWhich v_keptAt v_isWriting v_place vc.1) (cwV 2 hts gX9_swap_X9_change rfl rfl rfl (by decide +kernel) ⟨(Nat.le_of_ble_eq_true rfl), (Nat.le_of_ble_eq_true rfl)⟩) hK hP hD [0, 1] rfl rfl 0 9 rfl rfl rfl rfl rfl hl.1 (Nat.le_of_ble_eq_true rfl) dX9_swap_24 ⟨(Nat.le_of_ble_eq_true rfl), (Nat.le_of_ble_eq_true rfl)⟩) hP hD hS hA [0, 1] [] rfl rfl rfl rfl (fun u_ H locs hq_ hP hD hS => ?_)
        obtain ⟨f_3, rfl⟩ : ∃ z, z = u_ := ⟨_, rfl⟩
        replace vc := vc.2  f_3 hq_
        refine W.widen (k := 0) (n := 0) (Nat.le_of_ble_eq_true rfl) (Nat.le_of_ble_eq_true rfl) ?_
        have hP : va_P D vwCl [(h_this, .inr (9, [.int v_present, .ref h_this_wool, .ref h_this_stitches, .ref h_this_place, .int v_chest, .int v_years, .ref h_this_sightSundays, .ref h_this_sightWool, .int v_sights, .ref h_this_pad, .int v_padMany, .ref h_this_act, .ref h_this_which, .ref h_this_much, .int v_acts, .int v_sweptMany, .ref h_this_had, .int v_badAct, .int v_badWhy, .int v_sweptAct, .int v_sweptWhich, .ref h_this_rows, .ref h_this_groups, .ref h_this_covers, .ref h_this_byWool, .ref h_this_wins, .ref h_this_kept, .ref h_this_isKept, .int v_keptAt, .int v_isWriting])), (h_this_place, .inl (cI, 10, .inl f_3))] H := hP
        have hD : va_D A [(h_this, .inr (9, [.int v_present, .ref h_this_wool, .ref h_this_stitches, .ref h_this_place, .int v_chest, .int v_years, .ref h_this_sightSundays, .ref h_this_sightWool, .int v_sights, .ref h_this_pad, .int v_padMany, .ref h_this_act, .ref h_this_which, .ref h_this_much, .int v_acts, .int v_sweptMany, .ref h_this_had, .int v_badAct, .int v_badWhy, .int v_sweptAct, .int v_sweptWhich, .ref h_this_rows, .ref h_this_groups, .ref h_this_covers, .ref h_this_byWool, .ref h_this_wins, .ref h_this_kept, .ref h_this_isKept, .int v_keptAt, .int v_isWriting])), (h_this_place, .inl (cI, 10, .inl f_3))] := hD
        refine lv_aload_n hx hb dX9_swap_27 rfl (lv_at hl 0 rfl) ?_
        refine va_get (D := D) (ci := 9) (v := .ref h_this_place) (C := RX9) (T := TX9) (N := 30) hx hb hts mcX9_swap_X9 hown hK.1 hP 0 rfl rfl 3 (by decide) (hts _ mwX9_swap_1) (fun _ h9 => h9) rfl dX9_swap_28 ?_
        refine lv_iload_n hx hb dX9_swap_31 rfl (lv_at hl 1 rfl) ?_
        have hi_4 := vc.1
        replace vc := vc.2
        refine va_iald hx hb hK.1 hP 1 0 rfl rfl hi_4 dX9_swap_32 ?_
        exact W.iret (v := (f_3 (p0).toNatClampNeg)) hx hb hr (fun t ht hW => ⟨⟨(f_3 (p0).toNatClampNeg), (f_3), rfl, vc, QB_mk (hP.sub [0, 1] rfl) (hD.sub [0, 1] rfl rfl) ht⟩, hS.F ht⟩) hS.2.2 dX9_swap_33
      · replace vc := vc.2 c_
        refine lv_iconst (v := (-1 : Int32)) hx hb dX9_swap_19 (by decide) ?_
        exact W.iret (v := (-1 : Int32)) hx hb hr (fun t ht hW => ⟨⟨(-1 : Int32), (v_place), rfl, vc, QB_mk (hP.sub [0, 1] rfl) (hD.sub [0, 1] rfl rfl) ht⟩, hS.F ht⟩) hS.2.2 dX9_swap_20

theorem mwX9_say_1 : Cond.constantLong RX9 97 (33) ∈ wsX9_say := List.mem_of_getElem? (i := 1) rfl
theorem mwX9_say_2 : Cond.constantLong RX9 99 (126) ∈ wsX9_say := List.mem_of_getElem? (i := 2) rfl
theorem mwX9_say_3 : Cond.fieldLink RX9 101 "HassockSeeModel" "padMany" "I" ∈ wsX9_say := List.mem_of_getElem? (i := 3) rfl
theorem mwX9_say_4 : Cond.fieldLink RX9 25 "HassockSeeModel" "pad" "[I" ∈ wsX9_say := List.mem_of_getElem? (i := 4) rfl
theorem mcX9_say_X9 : ∀ w ∈ u_ws RX9 TX9 30, w ∈ wsX9_say := fun _ h => (List.mem_cons_of_mem _ (List.mem_append_right _ h))
def KX9_say (l : Launch) (D : va_G) (cI cZ : ClassId) (P : Int32 → Int32 → (Nat → Int32) → Prop) (Q : Int32 → Int32 → (Nat → Int32) → Int32 → Int32 → (Nat → Int32) → Prop) : Prop := ∀ (sz : Nat) (h_this h_this_wool h_this_stitches h_this_place h_this_sightSundays h_this_sightWool h_this_pad h_this_act h_this_which h_this_much h_this_had h_this_rows h_this_groups h_this_covers h_this_byWool h_this_wins h_this_kept h_this_isKept : Nat) (p0 : Int32) (v_present : Int32) (v_chest : Int32) (v_years : Int32) (v_sights : Int32) (v_padMany : Int32) (v_acts : Int32) (v_sweptMany : Int32) (v_badAct : Int32) (v_badWhy : Int32) (v_sweptAct : Int32) (v_sweptWhich : Int32) (v_keptAt : Int32) (v_isWriting : Int32) (v_pad : (Nat → Int32)), P p0 v_padMany v_pad → MI l yX9_say wsX9_say ({ frames := 1, cells := 0, slots := 0, locals := 25 }) [.ref h_this, .int p0] D cI cZ sz [(h_this, .inr (9, [.int v_present, .ref h_this_wool, .ref h_this_stitches, .ref h_this_place, .int v_chest, .int v_years, .ref h_this_sightSundays, .ref h_this_sightWool, .int v_sights, .ref h_this_pad, .int v_padMany, .ref h_this_act, .ref h_this_which, .ref h_this_much, .int v_acts, .int v_sweptMany, .ref h_this_had, .int v_badAct, .int v_badWhy, .int v_sweptAct, .int v_sweptWhich, .ref h_this_rows, .ref h_this_groups, .ref h_this_covers, .ref h_this_byWool, .ref h_this_wins, .ref h_this_kept, .ref h_this_isKept, .int v_keptAt, .int v_isWriting])), (h_this_pad, .inl (cI, 60, .inl v_pad))] (fun r (u : Int32 × (Nat → Int32)) => Q p0 v_padMany v_pad r (u.1) (u.2)) (fun u => [(h_this, .inr (9, [.int v_present, .ref h_this_wool, .ref h_this_stitches, .ref h_this_place, .int v_chest, .int v_years, .ref h_this_sightSundays, .ref h_this_sightWool, .int v_sights, .ref h_this_pad, .int (u.1), .ref h_this_act, .ref h_this_which, .ref h_this_much, .int v_acts, .int v_sweptMany, .ref h_this_had, .int v_badAct, .int v_badWhy, .int v_sweptAct, .int v_sweptWhich, .ref h_this_rows, .ref h_this_groups, .ref h_this_covers, .ref h_this_byWool, .ref h_this_wins, .ref h_this_kept, .ref h_this_isKept, .int v_keptAt, .int v_isWriting])), (h_this_pad, .inl (cI, 60, .inl (u.2)))]) 0 0
set_option maxHeartbeats 4000000 in
set_option maxRecDepth 100000 in
theorem walkX9_say {l : Launch} {D : va_G} {cI cZ : ClassId} {PX9_say : Int32 → Int32 → (Nat → Int32) → Prop} {QX9_say : Int32 → Int32 → (Nat → Int32) → Int32 → Int32 → (Nat → Int32) → Prop} {PX9_in : Int64 → Int64 → Int64 → Prop} {QX9_in : Int64 → Int64 → Int64 → Int32 → Prop} (kX9_in : KX9_in l D cI cZ PX9_in QX9_in) (hvc : ∀ (p0 : Int32) (v_padMany : Int32) (v_pad : (Nat → Int32)), PX9_say p0 v_padMany v_pad → (PX9_in (p0.toInt64) (33 : Int64) (126 : Int64) ∧ (∀ r_1 : Int32, QX9_in (p0.toInt64) (33 : Int64) (126 : Int64) r_1 → ((¬ r_1 = 0 → ((¬ v_padMany = (60 : Int32) → (vp_in v_padMany 60 ∧ (∀ x_3 : Int32, x_3 = (v_padMany + (1 : Int32)) → (QX9_say p0 v_padMany v_pad x_3 x_3 (upd v_pad (v_padMany).toNatClampNeg p0))))) ∧ (v_padMany = (60 : Int32) → (QX9_say p0 v_padMany v_pad (-4 : Int32) v_padMany v_pad)))) ∧ (r_1 = 0 → (QX9_say p0 v_padMany v_pad (-2 : Int32) v_padMany v_pad)))))) : KX9_say l D cI cZ PX9_say QX9_say := by
  intro sz h_this h_this_wool h_this_stitches h_this_place h_this_sightSundays h_this_sightWool h_this_pad h_this_act h_this_which h_this_much h_this_had h_this_rows h_this_groups h_this_covers h_this_byWool h_this_wins h_this_kept h_this_isKept p0 v_present v_chest v_years v_sights v_padMany v_acts v_sweptMany v_badAct v_badWhy v_sweptAct v_sweptWhich v_keptAt v_isWriting v_pad hpre
  have vc := hvc p0 v_padMany v_pad hpre
  clear hvc
  refine Met.ofW (cc := cX9_say) (maxL := 2) (ret := (some .int)) (by decide) rfl ?_
  intro p e s m args below meth c s₁ B hml hv
  obtain ⟨rfl, hsz, hP, hK, hD0⟩ := hv
  have hx := B.exec
  have hb := B.bytes
  have hr := B.returns
  have hts := atoms_spec (ws := wsX9_say) B.pre
  have hown : s.vm.findClass RX9 = some m.cls := findClass_of_methodNamed B.named
  have hlocks := B.notSynchronized
  subst hsz
  have hD := hD0.self (sz := s.heap.size)
  generalize hAe : va_A [(h_this, .inr (9, [.int v_present, .ref h_this_wool, .ref h_this_stitches, .ref h_this_place, .int v_chest, .int v_years, .ref h_this_sightSundays, .ref h_this_sightWool, .int v_sights, .ref h_this_pad, .int v_padMany, .ref h_this_act, .ref h_this_which, .ref h_this_much, .int v_acts, .int v_sweptMany, .ref h_this_had, .int v_badAct, .int v_badWhy, .int v_sweptAct, .int v_sweptWhich, .ref h_this_rows, .ref h_this_groups, .ref h_this_covers, .ref h_this_byWool, .ref h_this_wins, .ref h_this_kept, .ref h_this_isKept, .int v_keptAt, .int v_isWriting])), (h_this_pad, .inl (cI, 60, .inl v_pad))] s.heap.size = A at hD ⊢
  have hA : ∀ q : Nat, s.heap.size ≤ q → A q := fun q h => by rw [← hAe]; exact Or.inr h
  have hS : va_S A s.heap s.heap [] := va_S.rf
  have hP : va_P D vwCl [(h_this, .inr (9, [.int v_present, .ref h_this_wool, .ref h_this_stitches, .ref h_this_place, .int v_chest, .int v_years, .ref h_this_sightSundays, .ref h_this_sightWool, .int v_sights, .ref h_this_pad, .int v_padMany, .ref h_this_act, .ref h_this_which, .ref h_this_much, .int v_acts, .int v_sweptMany, .ref h_this_had, .int v_badAct, .int v_badWhy, .int v_sweptAct, .int v_sweptWhich, .ref h_this_rows, .ref h_this_groups, .ref h_this_covers, .ref h_this_byWool, .ref h_this_wins, .ref h_this_kept, .ref h_this_isKept, .int v_keptAt, .int v_isWriting])), (h_this_pad, .inl (cI, 60, .inl v_pad))] s.heap := hP
  have hl := lv_entry ([.ref h_this, .int p0]) (n := 2) (Nat.le_of_ble_eq_true rfl)
  rw [lg_entry_eq]
  generalize (lg_sl ([.ref h_this, .int p0]) ++ List.replicate (2 - (lg_sl ([.ref h_this, .int p0])).length) Slot.unset).toArray = ls at hl ⊢
  have hl : lv_has ls 2 [(0, .ref h_this), (1, .int p0)] := hl
  refine lv_iload_n hx hb dX9_say_0 rfl (lv_at hl 1 rfl) ?_
  refine lv_i2l hx hb dX9_say_1 rfl ?_
  refine lv_ldc2 (v := (33 : Int64)) hx hb hown (hts _ mwX9_say_1) dX9_say_2 ?_
  refine lv_ldc2 (v := (126 : Int64)) hx hb hown (hts _ mwX9_say_2) dX9_say_5 ?_
  refine kj0_i (rest := []) (kS ⟨hx, hb, hml, hown, hts⟩ (kX9_in _ (p0.toInt64) (33 : Int64) (126 : Int64) vc.1) (va_cwS 3 hts gX9_say_X9_in rfl rfl rfl (by decide +kernel) ⟨(Nat.le_of_ble_eq_true rfl), (Nat.le_of_ble_eq_true rfl)⟩) hK rfl rfl hl.1 (Nat.le_of_ble_eq_true rfl) dX9_say_8 ⟨(Nat.le_of_ble_eq_true rfl), (Nat.le_of_ble_eq_true rfl)⟩) hP hS hA (fun r_1 H locs hq_ hP hS => ?_)
  replace vc := vc.2 r_1 hq_
  have hP : va_P D vwCl [(h_this, .inr (9, [.int v_present, .ref h_this_wool, .ref h_this_stitches, .ref h_this_place, .int v_chest, .int v_years, .ref h_this_sightSundays, .ref h_this_sightWool, .int v_sights, .ref h_this_pad, .int v_padMany, .ref h_this_act, .ref h_this_which, .ref h_this_much, .int v_acts, .int v_sweptMany, .ref h_this_had, .int v_badAct, .int v_badWhy, .int v_sweptAct, .int v_sweptWhich, .ref h_this_rows, .ref h_this_groups, .ref h_this_covers, .ref h_this_byWool, .ref h_this_wins, .ref h_this_kept, .ref h_this_isKept, .int v_keptAt, .int v_isWriting])), (h_this_pad, .inl (cI, 60, .inl v_pad))] H := hP
  refine lv_if_ne (tgt := 17) hx hb dX9_say_11 (by decide) (fun c_ => ?_) (fun c_ => ?_)
  · replace vc := vc.1 c_
    refine lv_aload_n hx hb dX9_say_17 rfl (lv_at hl 0 rfl) ?_
    refine va_get (D := D) (ci := 9) (v := .int v_padMany) (C := RX9) (T := TX9) (N := 30) hx hb hts mcX9_say_X9 hown hK.1 hP 0 rfl rfl 10 (by decide) (hts _ mwX9_say_3) (fun _ h9 => h9) rfl dX9_say_18 ?_
    refine lv_bipush (v := (60 : Int32)) hx hb dX9_say_21 (by decide) ?_
    refine lv_icmp_ne (tgt := 29) hx hb dX9_say_23 (by decide) (fun c_ => ?_) (fun c_ => ?_)
    · replace vc := vc.1 c_
      refine lv_aload_n hx hb dX9_say_29 rfl (lv_at hl 0 rfl) ?_
      refine va_get (D := D) (ci := 9) (v := .ref h_this_pad) (C := RX9) (T := TX9) (N := 30) hx hb hts mcX9_say_X9 hown hK.1 hP 0 rfl rfl 9 (by decide) (hts _ mwX9_say_4) (fun _ h9 => h9) rfl dX9_say_30 ?_
      refine lv_aload_n hx hb dX9_say_33 rfl (lv_at hl 0 rfl) ?_
      refine va_get (D := D) (ci := 9) (v := .int v_padMany) (C := RX9) (T := TX9) (N := 30) hx hb hts mcX9_say_X9 hown hK.1 hP 0 rfl rfl 10 (by decide) (hts _ mwX9_say_3) (fun _ h9 => h9) rfl dX9_say_34 ?_
      refine lv_iload_n hx hb dX9_say_37 rfl (lv_at hl 1 rfl) ?_
      have hi_2 := vc.1
      replace vc := vc.2
      refine va_iast hx hb hK.1 hP hD hS 1 0 rfl rfl hi_2 dX9_say_38 (fun H locs hP hD hS => ?_)
      have hP : va_P D vwCl [(h_this, .inr (9, [.int v_present, .ref h_this_wool, .ref h_this_stitches, .ref h_this_place, .int v_chest, .int v_years, .ref h_this_sightSundays, .ref h_this_sightWool, .int v_sights, .ref h_this_pad, .int v_padMany, .ref h_this_act, .ref h_this_which, .ref h_this_much, .int v_acts, .int v_sweptMany, .ref h_this_had, .int v_badAct, .int v_badWhy, .int v_sweptAct, .int v_sweptWhich, .ref h_this_rows, .ref h_this_groups, .ref h_this_covers, .ref h_this_byWool, .ref h_this_wins, .ref h_this_kept, .ref h_this_isKept, .int v_keptAt, .int v_isWriting])), (h_this_pad, .inl (cI, 60, .inl (upd v_pad (v_padMany).toNatClampNeg p0)))] H := hP
      have hD : va_D A [(h_this, .inr (9, [.int v_present, .ref h_this_wool, .ref h_this_stitches, .ref h_this_place, .int v_chest, .int v_years, .ref h_this_sightSundays, .ref h_this_sightWool, .int v_sights, .ref h_this_pad, .int v_padMany, .ref h_this_act, .ref h_this_which, .ref h_this_much, .int v_acts, .int v_sweptMany, .ref h_this_had, .int v_badAct, .int v_badWhy, .int v_sweptAct, .int v_sweptWhich, .ref h_this_rows, .ref h_this_groups, .ref h_this_covers, .ref h_this_byWool, .ref h_this_wins, .ref h_this_kept, .ref h_this_isKept, .int v_keptAt, .int v_isWriting])), (h_this_pad, .inl (cI, 60, .inl (upd v_pad (v_padMany).toNatClampNeg p0)))] := hD
      refine lv_aload_n hx hb dX9_say_39 rfl (lv_at hl 0 rfl) ?_
      refine lv_dup hx hb dX9_say_40 rfl ?_
      refine va_get (D := D) (ci := 9) (v := .int v_padMany) (C := RX9) (T := TX9) (N := 30) hx hb hts mcX9_say_X9 hown hK.1 hP 0 rfl rfl 10 (by decide) (hts _ mwX9_say_3) (fun _ h9 => h9) rfl dX9_say_41 ?_
      refine lv_iconst (v := (1 : Int32)) hx hb dX9_say_44 (by decide) ?_
      refine lv_iadd hx hb dX9_say_45 ?_
      refine lv_topi (fun x_3 ex_3 => ?_)
      replace vc := vc x_3 ex_3
      refine va_put (D := D) (ci := 9) (v := .int x_3) (ty := .int) (C := RX9) (T := TX9) (N := 30) hx hb hts mcX9_say_X9 tyX9 tyX9_ok nmX9 hown hK.1 hP hD hS 0 rfl rfl 10 (by decide) (hts _ mwX9_say_3) (fun _ h9 => h9) rfl (by decide +kernel) rfl rfl (Nat.le_of_ble_eq_true rfl) dX9_say_46 (fun H locs hP hD hS => ?_)
      have hP : va_P D vwCl [(h_this, .inr (9, [.int v_present, .ref h_this_wool, .ref h_this_stitches, .ref h_this_place, .int v_chest, .int v_years, .ref h_this_sightSundays, .ref h_this_sightWool, .int v_sights, .ref h_this_pad, .int x_3, .ref h_this_act, .ref h_this_which, .ref h_this_much, .int v_acts, .int v_sweptMany, .ref h_this_had, .int v_badAct, .int v_badWhy, .int v_sweptAct, .int v_sweptWhich, .ref h_this_rows, .ref h_this_groups, .ref h_this_covers, .ref h_this_byWool, .ref h_this_wins, .ref h_this_kept, .ref h_this_isKept, .int v_keptAt, .int v_isWriting])), (h_this_pad, .inl (cI, 60, .inl (upd v_pad (v_padMany).toNatClampNeg p0)))] H := hP
      have hD : va_D A [(h_this, .inr (9, [.int v_present, .ref h_this_wool, .ref h_this_stitches, .ref h_this_place, .int v_chest, .int v_years, .ref h_this_sightSundays, .ref h_this_sightWool, .int v_sights, .ref h_this_pad, .int x_3, .ref h_this_act, .ref h_this_which, .ref h_this_much, .int v_acts, .int v_sweptMany, .ref h_this_had, .int v_badAct, .int v_badWhy, .int v_sweptAct, .int v_sweptWhich, .ref h_this_rows, .ref h_this_groups, .ref h_this_covers, .ref h_this_byWool, .ref h_this_wins, .ref h_this_kept, .ref h_this_isKept, .int v_keptAt, .int v_isWriting])), (h_this_pad, .inl (cI, 60, .inl (upd v_pad (v_padMany).toNatClampNeg p0)))] := hD
      refine lv_aload_n hx hb dX9_say_49 rfl (lv_at hl 0 rfl) ?_
      refine va_get (D := D) (ci := 9) (v := .int x_3) (C := RX9) (T := TX9) (N := 30) hx hb hts mcX9_say_X9 hown hK.1 hP 0 rfl rfl 10 (by decide) (hts _ mwX9_say_3) (fun _ h9 => h9) rfl dX9_say_50 ?_
      exact W.iret (v := x_3) hx hb hr (fun t ht hW => ⟨⟨x_3, (x_3, (upd v_pad (v_padMany).toNatClampNeg p0)), rfl, vc, QB_mk (hP.sub [0, 1] rfl) (hD.sub [0, 1] rfl rfl) ht⟩, hS.F ht⟩) hS.2.2 dX9_say_53
    · replace vc := vc.2 c_
      refine lv_bipush (v := (-4 : Int32)) hx hb dX9_say_26 (by decide) ?_
      exact W.iret (v := (-4 : Int32)) hx hb hr (fun t ht hW => ⟨⟨(-4 : Int32), (v_padMany, v_pad), rfl, vc, QB_mk (hP.sub [0, 1] rfl) (hD.sub [0, 1] rfl rfl) ht⟩, hS.F ht⟩) hS.2.2 dX9_say_28
  · replace vc := vc.2 c_
    refine lv_bipush (v := (-2 : Int32)) hx hb dX9_say_14 (by decide) ?_
    exact W.iret (v := (-2 : Int32)) hx hb hr (fun t ht hW => ⟨⟨(-2 : Int32), (v_padMany, v_pad), rfl, vc, QB_mk (hP.sub [0, 1] rfl) (hD.sub [0, 1] rfl rfl) ht⟩, hS.F ht⟩) hS.2.2 dX9_say_16

theorem mwX9_wipe_1 : Cond.fieldLink RX9 101 "HassockSeeModel" "padMany" "I" ∈ wsX9_wipe := List.mem_of_getElem? (i := 1) rfl
theorem mcX9_wipe_X9 : ∀ w ∈ u_ws RX9 TX9 30, w ∈ wsX9_wipe := fun _ h => (List.mem_cons_of_mem _ (List.mem_append_right _ h))
def KX9_wipe (l : Launch) (D : va_G) (cI cZ : ClassId) (P : Int32 → Prop) (Q : Int32 → Int32 → Int32 → Prop) : Prop := ∀ (sz : Nat) (h_this h_this_wool h_this_stitches h_this_place h_this_sightSundays h_this_sightWool h_this_pad h_this_act h_this_which h_this_much h_this_had h_this_rows h_this_groups h_this_covers h_this_byWool h_this_wins h_this_kept h_this_isKept : Nat) (v_present : Int32) (v_chest : Int32) (v_years : Int32) (v_sights : Int32) (v_padMany : Int32) (v_acts : Int32) (v_sweptMany : Int32) (v_badAct : Int32) (v_badWhy : Int32) (v_sweptAct : Int32) (v_sweptWhich : Int32) (v_keptAt : Int32) (v_isWriting : Int32), P v_padMany → MI l yX9_wipe wsX9_wipe ({ frames := 0, cells := 0, slots := 0, locals := 0 }) [.ref h_this] D cI cZ sz [(h_this, .inr (9, [.int v_present, .ref h_this_wool, .ref h_this_stitches, .ref h_this_place, .int v_chest, .int v_years, .ref h_this_sightSundays, .ref h_this_sightWool, .int v_sights, .ref h_this_pad, .int v_padMany, .ref h_this_act, .ref h_this_which, .ref h_this_much, .int v_acts, .int v_sweptMany, .ref h_this_had, .int v_badAct, .int v_badWhy, .int v_sweptAct, .int v_sweptWhich, .ref h_this_rows, .ref h_this_groups, .ref h_this_covers, .ref h_this_byWool, .ref h_this_wins, .ref h_this_kept, .ref h_this_isKept, .int v_keptAt, .int v_isWriting]))] (fun r (u : Int32) => Q v_padMany r u) (fun u => [(h_this, .inr (9, [.int v_present, .ref h_this_wool, .ref h_this_stitches, .ref h_this_place, .int v_chest, .int v_years, .ref h_this_sightSundays, .ref h_this_sightWool, .int v_sights, .ref h_this_pad, .int u, .ref h_this_act, .ref h_this_which, .ref h_this_much, .int v_acts, .int v_sweptMany, .ref h_this_had, .int v_badAct, .int v_badWhy, .int v_sweptAct, .int v_sweptWhich, .ref h_this_rows, .ref h_this_groups, .ref h_this_covers, .ref h_this_byWool, .ref h_this_wins, .ref h_this_kept, .ref h_this_isKept, .int v_keptAt, .int v_isWriting]))]) 0 0
set_option maxHeartbeats 4000000 in
set_option maxRecDepth 100000 in
theorem walkX9_wipe {l : Launch} {D : va_G} {cI cZ : ClassId} {PX9_wipe : Int32 → Prop} {QX9_wipe : Int32 → Int32 → Int32 → Prop}  (hvc : ∀ (v_padMany : Int32), PX9_wipe v_padMany → (QX9_wipe v_padMany v_padMany (0 : Int32))) : KX9_wipe l D cI cZ PX9_wipe QX9_wipe := by
  intro sz h_this h_this_wool h_this_stitches h_this_place h_this_sightSundays h_this_sightWool h_this_pad h_this_act h_this_which h_this_much h_this_had h_this_rows h_this_groups h_this_covers h_this_byWool h_this_wins h_this_kept h_this_isKept v_present v_chest v_years v_sights v_padMany v_acts v_sweptMany v_badAct v_badWhy v_sweptAct v_sweptWhich v_keptAt v_isWriting hpre
  have vc := hvc v_padMany hpre
  clear hvc
  refine Met.ofW (cc := cX9_wipe) (maxL := 2) (ret := (some .int)) (by decide) rfl ?_
  intro p e s m args below meth c s₁ B hml hv
  obtain ⟨rfl, hsz, hP, hK, hD0⟩ := hv
  have hx := B.exec
  have hb := B.bytes
  have hr := B.returns
  have hts := atoms_spec (ws := wsX9_wipe) B.pre
  have hown : s.vm.findClass RX9 = some m.cls := findClass_of_methodNamed B.named
  have hlocks := B.notSynchronized
  subst hsz
  have hD := hD0.self (sz := s.heap.size)
  generalize hAe : va_A [(h_this, .inr (9, [.int v_present, .ref h_this_wool, .ref h_this_stitches, .ref h_this_place, .int v_chest, .int v_years, .ref h_this_sightSundays, .ref h_this_sightWool, .int v_sights, .ref h_this_pad, .int v_padMany, .ref h_this_act, .ref h_this_which, .ref h_this_much, .int v_acts, .int v_sweptMany, .ref h_this_had, .int v_badAct, .int v_badWhy, .int v_sweptAct, .int v_sweptWhich, .ref h_this_rows, .ref h_this_groups, .ref h_this_covers, .ref h_this_byWool, .ref h_this_wins, .ref h_this_kept, .ref h_this_isKept, .int v_keptAt, .int v_isWriting]))] s.heap.size = A at hD ⊢
  have hA : ∀ q : Nat, s.heap.size ≤ q → A q := fun q h => by rw [← hAe]; exact Or.inr h
  have hS : va_S A s.heap s.heap [] := va_S.rf
  have hP : va_P D vwCl [(h_this, .inr (9, [.int v_present, .ref h_this_wool, .ref h_this_stitches, .ref h_this_place, .int v_chest, .int v_years, .ref h_this_sightSundays, .ref h_this_sightWool, .int v_sights, .ref h_this_pad, .int v_padMany, .ref h_this_act, .ref h_this_which, .ref h_this_much, .int v_acts, .int v_sweptMany, .ref h_this_had, .int v_badAct, .int v_badWhy, .int v_sweptAct, .int v_sweptWhich, .ref h_this_rows, .ref h_this_groups, .ref h_this_covers, .ref h_this_byWool, .ref h_this_wins, .ref h_this_kept, .ref h_this_isKept, .int v_keptAt, .int v_isWriting]))] s.heap := hP
  have hl := lv_entry ([.ref h_this]) (n := 2) (Nat.le_of_ble_eq_true rfl)
  rw [lg_entry_eq]
  generalize (lg_sl ([.ref h_this]) ++ List.replicate (2 - (lg_sl ([.ref h_this])).length) Slot.unset).toArray = ls at hl ⊢
  have hl : lv_has ls 2 [(0, .ref h_this)] := hl
  refine lv_aload_n hx hb dX9_wipe_0 rfl (lv_at hl 0 rfl) ?_
  refine va_get (D := D) (ci := 9) (v := .int v_padMany) (C := RX9) (T := TX9) (N := 30) hx hb hts mcX9_wipe_X9 hown hK.1 hP 0 rfl rfl 10 (by decide) (hts _ mwX9_wipe_1) (fun _ h9 => h9) rfl dX9_wipe_1 ?_
  refine lv_istore_n (lv' := [(1, .int v_padMany), (0, .ref h_this)]) hx hb dX9_wipe_4 rfl hl (by decide) rfl (fun ls hl => ?_)
  refine lv_aload_n hx hb dX9_wipe_5 rfl (lv_at hl 1 rfl) ?_
  refine lv_iconst (v := (0 : Int32)) hx hb dX9_wipe_6 (by decide) ?_
  refine va_put (D := D) (ci := 9) (v := .int (0 : Int32)) (ty := .int) (C := RX9) (T := TX9) (N := 30) hx hb hts mcX9_wipe_X9 tyX9 tyX9_ok nmX9 hown hK.1 hP hD hS 0 rfl rfl 10 (by decide) (hts _ mwX9_wipe_1) (fun _ h9 => h9) rfl (by decide +kernel) rfl rfl (Nat.le_of_ble_eq_true rfl) dX9_wipe_7 (fun H locs hP hD hS => ?_)
  have hP : va_P D vwCl [(h_this, .inr (9, [.int v_present, .ref h_this_wool, .ref h_this_stitches, .ref h_this_place, .int v_chest, .int v_years, .ref h_this_sightSundays, .ref h_this_sightWool, .int v_sights, .ref h_this_pad, .int (0 : Int32), .ref h_this_act, .ref h_this_which, .ref h_this_much, .int v_acts, .int v_sweptMany, .ref h_this_had, .int v_badAct, .int v_badWhy, .int v_sweptAct, .int v_sweptWhich, .ref h_this_rows, .ref h_this_groups, .ref h_this_covers, .ref h_this_byWool, .ref h_this_wins, .ref h_this_kept, .ref h_this_isKept, .int v_keptAt, .int v_isWriting]))] H := hP
  have hD : va_D A [(h_this, .inr (9, [.int v_present, .ref h_this_wool, .ref h_this_stitches, .ref h_this_place, .int v_chest, .int v_years, .ref h_this_sightSundays, .ref h_this_sightWool, .int v_sights, .ref h_this_pad, .int (0 : Int32), .ref h_this_act, .ref h_this_which, .ref h_this_much, .int v_acts, .int v_sweptMany, .ref h_this_had, .int v_badAct, .int v_badWhy, .int v_sweptAct, .int v_sweptWhich, .ref h_this_rows, .ref h_this_groups, .ref h_this_covers, .ref h_this_byWool, .ref h_this_wins, .ref h_this_kept, .ref h_this_isKept, .int v_keptAt, .int v_isWriting]))] := hD
  refine lv_iload_n hx hb dX9_wipe_10 rfl (lv_at hl 0 rfl) ?_
  exact W.iret (v := v_padMany) hx hb hr (fun t ht hW => ⟨⟨v_padMany, ((0 : Int32)), rfl, vc, QB_mk (hP.sub [0] rfl) (hD.sub [0] rfl rfl) ht⟩, hS.F ht⟩) hS.2.2 dX9_wipe_11

theorem mwX9_close_1 : Cond.fieldLink RX9 28 "HassockSeeModel" "act" "[I" ∈ wsX9_close := List.mem_of_getElem? (i := 1) rfl
theorem mwX9_close_2 : Cond.fieldLink RX9 104 "HassockSeeModel" "acts" "I" ∈ wsX9_close := List.mem_of_getElem? (i := 2) rfl
theorem mwX9_close_3 : Cond.fieldLink RX9 34 "HassockSeeModel" "much" "[I" ∈ wsX9_close := List.mem_of_getElem? (i := 3) rfl
theorem mcX9_close_X9 : ∀ w ∈ u_ws RX9 TX9 30, w ∈ wsX9_close := fun _ h => (List.mem_cons_of_mem _ (List.mem_append_right _ h))
def KX9_close (l : Launch) (D : va_G) (cI cZ : ClassId) (P : Int32 → Int32 → Int32 → (Nat → Int32) → (Nat → Int32) → Prop) (Q : Int32 → Int32 → Int32 → (Nat → Int32) → (Nat → Int32) → Int32 → Int32 → (Nat → Int32) → (Nat → Int32) → Prop) : Prop := ∀ (sz : Nat) (h_this h_this_wool h_this_stitches h_this_place h_this_sightSundays h_this_sightWool h_this_pad h_this_act h_this_which h_this_much h_this_had h_this_rows h_this_groups h_this_covers h_this_byWool h_this_wins h_this_kept h_this_isKept : Nat) (p0 : Int32) (p1 : Int32) (v_present : Int32) (v_chest : Int32) (v_years : Int32) (v_sights : Int32) (v_padMany : Int32) (v_acts : Int32) (v_sweptMany : Int32) (v_badAct : Int32) (v_badWhy : Int32) (v_sweptAct : Int32) (v_sweptWhich : Int32) (v_keptAt : Int32) (v_isWriting : Int32) (v_act : (Nat → Int32)) (v_much : (Nat → Int32)), P p0 p1 v_acts v_act v_much → MI l yX9_close wsX9_close ({ frames := 0, cells := 0, slots := 0, locals := 0 }) [.ref h_this, .int p0, .int p1] D cI cZ sz [(h_this, .inr (9, [.int v_present, .ref h_this_wool, .ref h_this_stitches, .ref h_this_place, .int v_chest, .int v_years, .ref h_this_sightSundays, .ref h_this_sightWool, .int v_sights, .ref h_this_pad, .int v_padMany, .ref h_this_act, .ref h_this_which, .ref h_this_much, .int v_acts, .int v_sweptMany, .ref h_this_had, .int v_badAct, .int v_badWhy, .int v_sweptAct, .int v_sweptWhich, .ref h_this_rows, .ref h_this_groups, .ref h_this_covers, .ref h_this_byWool, .ref h_this_wins, .ref h_this_kept, .ref h_this_isKept, .int v_keptAt, .int v_isWriting])), (h_this_act, .inl (cI, 60, .inl v_act)), (h_this_much, .inl (cI, 60, .inl v_much))] (fun r (u : Int32 × (Nat → Int32) × (Nat → Int32)) => Q p0 p1 v_acts v_act v_much r (u.1) (u.2.1) (u.2.2)) (fun u => [(h_this, .inr (9, [.int v_present, .ref h_this_wool, .ref h_this_stitches, .ref h_this_place, .int v_chest, .int v_years, .ref h_this_sightSundays, .ref h_this_sightWool, .int v_sights, .ref h_this_pad, .int v_padMany, .ref h_this_act, .ref h_this_which, .ref h_this_much, .int (u.1), .int v_sweptMany, .ref h_this_had, .int v_badAct, .int v_badWhy, .int v_sweptAct, .int v_sweptWhich, .ref h_this_rows, .ref h_this_groups, .ref h_this_covers, .ref h_this_byWool, .ref h_this_wins, .ref h_this_kept, .ref h_this_isKept, .int v_keptAt, .int v_isWriting])), (h_this_act, .inl (cI, 60, .inl (u.2.1))), (h_this_much, .inl (cI, 60, .inl (u.2.2)))]) 0 0
set_option maxHeartbeats 4000000 in
set_option maxRecDepth 100000 in
theorem walkX9_close {l : Launch} {D : va_G} {cI cZ : ClassId} {PX9_close : Int32 → Int32 → Int32 → (Nat → Int32) → (Nat → Int32) → Prop} {QX9_close : Int32 → Int32 → Int32 → (Nat → Int32) → (Nat → Int32) → Int32 → Int32 → (Nat → Int32) → (Nat → Int32) → Prop}  (hvc : ∀ (p0 : Int32) (p1 : Int32) (v_acts : Int32) (v_act : (Nat → Int32)) (v_much : (Nat → Int32)), PX9_close p0 p1 v_acts v_act v_much → (vp_in v_acts 60 ∧ (vp_in v_acts 60 ∧ (∀ x_3 : Int32, x_3 = (v_acts + (1 : Int32)) → (QX9_close p0 p1 v_acts v_act v_much (0 : Int32) x_3 (upd v_act (v_acts).toNatClampNeg p0) (upd v_much (v_acts).toNatClampNeg p1)))))) : KX9_close l D cI cZ PX9_close QX9_close := by
  intro sz h_this h_this_wool h_this_stitches h_this_place h_this_sightSundays h_this_sightWool h_this_pad h_this_act h_this_which h_this_much h_this_had h_this_rows h_this_groups h_this_covers h_this_byWool h_this_wins h_this_kept h_this_isKept p0 p1 v_present v_chest v_years v_sights v_padMany v_acts v_sweptMany v_badAct v_badWhy v_sweptAct v_sweptWhich v_keptAt v_isWriting v_act v_much hpre
  have vc := hvc p0 p1 v_acts v_act v_much hpre
  clear hvc
  refine Met.ofW (cc := cX9_close) (maxL := 3) (ret := (some .int)) (by decide) rfl ?_
  intro p e s m args below meth c s₁ B hml hv
  obtain ⟨rfl, hsz, hP, hK, hD0⟩ := hv
  have hx := B.exec
  have hb := B.bytes
  have hr := B.returns
  have hts := atoms_spec (ws := wsX9_close) B.pre
  have hown : s.vm.findClass RX9 = some m.cls := findClass_of_methodNamed B.named
  have hlocks := B.notSynchronized
  subst hsz
  have hD := hD0.self (sz := s.heap.size)
  generalize hAe : va_A [(h_this, .inr (9, [.int v_present, .ref h_this_wool, .ref h_this_stitches, .ref h_this_place, .int v_chest, .int v_years, .ref h_this_sightSundays, .ref h_this_sightWool, .int v_sights, .ref h_this_pad, .int v_padMany, .ref h_this_act, .ref h_this_which, .ref h_this_much, .int v_acts, .int v_sweptMany, .ref h_this_had, .int v_badAct, .int v_badWhy, .int v_sweptAct, .int v_sweptWhich, .ref h_this_rows, .ref h_this_groups, .ref h_this_covers, .ref h_this_byWool, .ref h_this_wins, .ref h_this_kept, .ref h_this_isKept, .int v_keptAt, .int v_isWriting])), (h_this_act, .inl (cI, 60, .inl v_act)), (h_this_much, .inl (cI, 60, .inl v_much))] s.heap.size = A at hD ⊢
  have hA : ∀ q : Nat, s.heap.size ≤ q → A q := fun q h => by rw [← hAe]; exact Or.inr h
  have hS : va_S A s.heap s.heap [] := va_S.rf
  have hP : va_P D vwCl [(h_this, .inr (9, [.int v_present, .ref h_this_wool, .ref h_this_stitches, .ref h_this_place, .int v_chest, .int v_years, .ref h_this_sightSundays, .ref h_this_sightWool, .int v_sights, .ref h_this_pad, .int v_padMany, .ref h_this_act, .ref h_this_which, .ref h_this_much, .int v_acts, .int v_sweptMany, .ref h_this_had, .int v_badAct, .int v_badWhy, .int v_sweptAct, .int v_sweptWhich, .ref h_this_rows, .ref h_this_groups, .ref h_this_covers, .ref h_this_byWool, .ref h_this_wins, .ref h_this_kept, .ref h_this_isKept, .int v_keptAt, .int v_isWriting])), (h_this_act, .inl (cI, 60, .inl v_act)), (h_this_much, .inl (cI, 60, .inl v_much))] s.heap := hP
  have hl := lv_entry ([.ref h_this, .int p0, .int p1]) (n := 3) (Nat.le_of_ble_eq_true rfl)
  rw [lg_entry_eq]
  generalize (lg_sl ([.ref h_this, .int p0, .int p1]) ++ List.replicate (3 - (lg_sl ([.ref h_this, .int p0, .int p1])).length) Slot.unset).toArray = ls at hl ⊢
  have hl : lv_has ls 3 [(0, .ref h_this), (1, .int p0), (2, .int p1)] := hl
  refine lv_aload_n hx hb dX9_close_0 rfl (lv_at hl 0 rfl) ?_
  refine va_get (D := D) (ci := 9) (v := .ref h_this_act) (C := RX9) (T := TX9) (N := 30) hx hb hts mcX9_close_X9 hown hK.1 hP 0 rfl rfl 11 (by decide) (hts _ mwX9_close_1) (fun _ h9 => h9) rfl dX9_close_1 ?_
  refine lv_aload_n hx hb dX9_close_4 rfl (lv_at hl 0 rfl) ?_
  refine va_get (D := D) (ci := 9) (v := .int v_acts) (C := RX9) (T := TX9) (N := 30) hx hb hts mcX9_close_X9 hown hK.1 hP 0 rfl rfl 14 (by decide) (hts _ mwX9_close_2) (fun _ h9 => h9) rfl dX9_close_5 ?_
  refine lv_iload_n hx hb dX9_close_8 rfl (lv_at hl 1 rfl) ?_
  have hi_1 := vc.1
  replace vc := vc.2
  refine va_iast hx hb hK.1 hP hD hS 1 0 rfl rfl hi_1 dX9_close_9 (fun H locs hP hD hS => ?_)
  have hP : va_P D vwCl [(h_this, .inr (9, [.int v_present, .ref h_this_wool, .ref h_this_stitches, .ref h_this_place, .int v_chest, .int v_years, .ref h_this_sightSundays, .ref h_this_sightWool, .int v_sights, .ref h_this_pad, .int v_padMany, .ref h_this_act, .ref h_this_which, .ref h_this_much, .int v_acts, .int v_sweptMany, .ref h_this_had, .int v_badAct, .int v_badWhy, .int v_sweptAct, .int v_sweptWhich, .ref h_this_rows, .ref h_this_groups, .ref h_this_covers, .ref h_this_byWool, .ref h_this_wins, .ref h_this_kept, .ref h_this_isKept, .int v_keptAt, .int v_isWriting])), (h_this_act, .inl (cI, 60, .inl (upd v_act (v_acts).toNatClampNeg p0))), (h_this_much, .inl (cI, 60, .inl v_much))] H := hP
  have hD : va_D A [(h_this, .inr (9, [.int v_present, .ref h_this_wool, .ref h_this_stitches, .ref h_this_place, .int v_chest, .int v_years, .ref h_this_sightSundays, .ref h_this_sightWool, .int v_sights, .ref h_this_pad, .int v_padMany, .ref h_this_act, .ref h_this_which, .ref h_this_much, .int v_acts, .int v_sweptMany, .ref h_this_had, .int v_badAct, .int v_badWhy, .int v_sweptAct, .int v_sweptWhich, .ref h_this_rows, .ref h_this_groups, .ref h_this_covers, .ref h_this_byWool, .ref h_this_wins, .ref h_this_kept, .ref h_this_isKept, .int v_keptAt, .int v_isWriting])), (h_this_act, .inl (cI, 60, .inl (upd v_act (v_acts).toNatClampNeg p0))), (h_this_much, .inl (cI, 60, .inl v_much))] := hD
  refine lv_aload_n hx hb dX9_close_10 rfl (lv_at hl 0 rfl) ?_
  refine va_get (D := D) (ci := 9) (v := .ref h_this_much) (C := RX9) (T := TX9) (N := 30) hx hb hts mcX9_close_X9 hown hK.1 hP 0 rfl rfl 13 (by decide) (hts _ mwX9_close_3) (fun _ h9 => h9) rfl dX9_close_11 ?_
  refine lv_aload_n hx hb dX9_close_14 rfl (lv_at hl 0 rfl) ?_
  refine va_get (D := D) (ci := 9) (v := .int v_acts) (C := RX9) (T := TX9) (N := 30) hx hb hts mcX9_close_X9 hown hK.1 hP 0 rfl rfl 14 (by decide) (hts _ mwX9_close_2) (fun _ h9 => h9) rfl dX9_close_15 ?_
  refine lv_iload_n hx hb dX9_close_18 rfl (lv_at hl 2 rfl) ?_
  have hi_2 := vc.1
  replace vc := vc.2
  refine va_iast hx hb hK.1 hP hD hS 2 0 rfl rfl hi_2 dX9_close_19 (fun H locs hP hD hS => ?_)
  have hP : va_P D vwCl [(h_this, .inr (9, [.int v_present, .ref h_this_wool, .ref h_this_stitches, .ref h_this_place, .int v_chest, .int v_years, .ref h_this_sightSundays, .ref h_this_sightWool, .int v_sights, .ref h_this_pad, .int v_padMany, .ref h_this_act, .ref h_this_which, .ref h_this_much, .int v_acts, .int v_sweptMany, .ref h_this_had, .int v_badAct, .int v_badWhy, .int v_sweptAct, .int v_sweptWhich, .ref h_this_rows, .ref h_this_groups, .ref h_this_covers, .ref h_this_byWool, .ref h_this_wins, .ref h_this_kept, .ref h_this_isKept, .int v_keptAt, .int v_isWriting])), (h_this_act, .inl (cI, 60, .inl (upd v_act (v_acts).toNatClampNeg p0))), (h_this_much, .inl (cI, 60, .inl (upd v_much (v_acts).toNatClampNeg p1)))] H := hP
  have hD : va_D A [(h_this, .inr (9, [.int v_present, .ref h_this_wool, .ref h_this_stitches, .ref h_this_place, .int v_chest, .int v_years, .ref h_this_sightSundays, .ref h_this_sightWool, .int v_sights, .ref h_this_pad, .int v_padMany, .ref h_this_act, .ref h_this_which, .ref h_this_much, .int v_acts, .int v_sweptMany, .ref h_this_had, .int v_badAct, .int v_badWhy, .int v_sweptAct, .int v_sweptWhich, .ref h_this_rows, .ref h_this_groups, .ref h_this_covers, .ref h_this_byWool, .ref h_this_wins, .ref h_this_kept, .ref h_this_isKept, .int v_keptAt, .int v_isWriting])), (h_this_act, .inl (cI, 60, .inl (upd v_act (v_acts).toNatClampNeg p0))), (h_this_much, .inl (cI, 60, .inl (upd v_much (v_acts).toNatClampNeg p1)))] := hD
  refine lv_aload_n hx hb dX9_close_20 rfl (lv_at hl 0 rfl) ?_
  refine lv_dup hx hb dX9_close_21 rfl ?_
  refine va_get (D := D) (ci := 9) (v := .int v_acts) (C := RX9) (T := TX9) (N := 30) hx hb hts mcX9_close_X9 hown hK.1 hP 0 rfl rfl 14 (by decide) (hts _ mwX9_close_2) (fun _ h9 => h9) rfl dX9_close_22 ?_
  refine lv_iconst (v := (1 : Int32)) hx hb dX9_close_25 (by decide) ?_
  refine lv_iadd hx hb dX9_close_26 ?_
  refine lv_topi (fun x_3 ex_3 => ?_)
  replace vc := vc x_3 ex_3
  refine va_put (D := D) (ci := 9) (v := .int x_3) (ty := .int) (C := RX9) (T := TX9) (N := 30) hx hb hts mcX9_close_X9 tyX9 tyX9_ok nmX9 hown hK.1 hP hD hS 0 rfl rfl 14 (by decide) (hts _ mwX9_close_2) (fun _ h9 => h9) rfl (by decide +kernel) rfl rfl (Nat.le_of_ble_eq_true rfl) dX9_close_27 (fun H locs hP hD hS => ?_)
  have hP : va_P D vwCl [(h_this, .inr (9, [.int v_present, .ref h_this_wool, .ref h_this_stitches, .ref h_this_place, .int v_chest, .int v_years, .ref h_this_sightSundays, .ref h_this_sightWool, .int v_sights, .ref h_this_pad, .int v_padMany, .ref h_this_act, .ref h_this_which, .ref h_this_much, .int x_3, .int v_sweptMany, .ref h_this_had, .int v_badAct, .int v_badWhy, .int v_sweptAct, .int v_sweptWhich, .ref h_this_rows, .ref h_this_groups, .ref h_this_covers, .ref h_this_byWool, .ref h_this_wins, .ref h_this_kept, .ref h_this_isKept, .int v_keptAt, .int v_isWriting])), (h_this_act, .inl (cI, 60, .inl (upd v_act (v_acts).toNatClampNeg p0))), (h_this_much, .inl (cI, 60, .inl (upd v_much (v_acts).toNatClampNeg p1)))] H := hP
  have hD : va_D A [(h_this, .inr (9, [.int v_present, .ref h_this_wool, .ref h_this_stitches, .ref h_this_place, .int v_chest, .int v_years, .ref h_this_sightSundays, .ref h_this_sightWool, .int v_sights, .ref h_this_pad, .int v_padMany, .ref h_this_act, .ref h_this_which, .ref h_this_much, .int x_3, .int v_sweptMany, .ref h_this_had, .int v_badAct, .int v_badWhy, .int v_sweptAct, .int v_sweptWhich, .ref h_this_rows, .ref h_this_groups, .ref h_this_covers, .ref h_this_byWool, .ref h_this_wins, .ref h_this_kept, .ref h_this_isKept, .int v_keptAt, .int v_isWriting])), (h_this_act, .inl (cI, 60, .inl (upd v_act (v_acts).toNatClampNeg p0))), (h_this_much, .inl (cI, 60, .inl (upd v_much (v_acts).toNatClampNeg p1)))] := hD
  refine lv_iconst (v := (0 : Int32)) hx hb dX9_close_30 (by decide) ?_
  exact W.iret (v := (0 : Int32)) hx hb hr (fun t ht hW => ⟨⟨(0 : Int32), (x_3, (upd v_act (v_acts).toNatClampNeg p0), (upd v_much (v_acts).toNatClampNeg p1)), rfl, vc, QB_mk (hP.sub [0, 1, 2] rfl) (hD.sub [0, 1, 2] rfl rfl) ht⟩, hS.F ht⟩) hS.2.2 dX9_close_31

theorem mwX9_isLetter_1 : Cond.constantLong RX9 107 (65) ∈ wsX9_isLetter := List.mem_of_getElem? (i := 1) rfl
theorem mwX9_isLetter_2 : Cond.constantLong RX9 109 (74) ∈ wsX9_isLetter := List.mem_of_getElem? (i := 2) rfl
def KX9_isLetter (l : Launch) (D : va_G) (cI cZ : ClassId) (P : Int32 → Prop) (Q : Int32 → Int32 → Prop) : Prop := ∀ (sz : Nat) (p0 : Int32), P p0 → MI l yX9_isLetter wsX9_isLetter ({ frames := 1, cells := 0, slots := 0, locals := 25 }) [.int p0] D cI cZ sz [] (fun r (u : Unit) => Q p0 r ) (fun u => []) 0 0
set_option maxHeartbeats 4000000 in
set_option maxRecDepth 100000 in
theorem walkX9_isLetter {l : Launch} {D : va_G} {cI cZ : ClassId} {PX9_isLetter : Int32 → Prop} {QX9_isLetter : Int32 → Int32 → Prop} {PX9_in : Int64 → Int64 → Int64 → Prop} {QX9_in : Int64 → Int64 → Int64 → Int32 → Prop} (kX9_in : KX9_in l D cI cZ PX9_in QX9_in) (hvc : ∀ (p0 : Int32), PX9_isLetter p0 → (PX9_in (p0.toInt64) (65 : Int64) (74 : Int64) ∧ (∀ r_1 : Int32, QX9_in (p0.toInt64) (65 : Int64) (74 : Int64) r_1 → ((r_1 = 0 ∨ r_1 = 1) ∧ QX9_isLetter p0 r_1 )))) : KX9_isLetter l D cI cZ PX9_isLetter QX9_isLetter := by
  intro sz  p0 hpre
  have vc := hvc p0 hpre
  clear hvc
  refine Met.ofW (cc := cX9_isLetter) (maxL := 1) (ret := (some .boolean)) (by decide) rfl ?_
  intro p e s m args below meth c s₁ B hml hv
  obtain ⟨rfl, hsz, hP, hK, hD0⟩ := hv
  have hx := B.exec
  have hb := B.bytes
  have hr := B.returns
  have hts := atoms_spec (ws := wsX9_isLetter) B.pre
  have hown : s.vm.findClass RX9 = some m.cls := findClass_of_methodNamed B.named
  have hlocks := B.notSynchronized
  subst hsz
  have hD := hD0.self (sz := s.heap.size)
  generalize hAe : va_A [] s.heap.size = A at hD ⊢
  have hA : ∀ q : Nat, s.heap.size ≤ q → A q := fun q h => by rw [← hAe]; exact Or.inr h
  have hS : va_S A s.heap s.heap [] := va_S.rf
  have hP : va_P D vwCl [] s.heap := hP
  have hl := lv_entry ([.int p0]) (n := 1) (Nat.le_of_ble_eq_true rfl)
  rw [lg_entry_eq]
  generalize (lg_sl ([.int p0]) ++ List.replicate (1 - (lg_sl ([.int p0])).length) Slot.unset).toArray = ls at hl ⊢
  have hl : lv_has ls 1 [(0, .int p0)] := hl
  refine lv_iload_n hx hb dX9_isLetter_0 rfl (lv_at hl 0 rfl) ?_
  refine lv_i2l hx hb dX9_isLetter_1 rfl ?_
  refine lv_ldc2 (v := (65 : Int64)) hx hb hown (hts _ mwX9_isLetter_1) dX9_isLetter_2 ?_
  refine lv_ldc2 (v := (74 : Int64)) hx hb hown (hts _ mwX9_isLetter_2) dX9_isLetter_5 ?_
  refine kj0_i (rest := []) (kS ⟨hx, hb, hml, hown, hts⟩ (kX9_in _ (p0.toInt64) (65 : Int64) (74 : Int64) vc.1) (va_cwS 3 hts gX9_isLetter_X9_in rfl rfl rfl (by decide +kernel) ⟨(Nat.le_of_ble_eq_true rfl), (Nat.le_of_ble_eq_true rfl)⟩) hK rfl rfl hl.1 (Nat.le_of_ble_eq_true rfl) dX9_isLetter_8 ⟨(Nat.le_of_ble_eq_true rfl), (Nat.le_of_ble_eq_true rfl)⟩) hP hS hA (fun r_1 H locs hq_ hP hS => ?_)
  replace vc := vc.2 r_1 hq_
  have hP : va_P D vwCl [] H := hP
  exact W.zret (v := r_1) hx hb hr (bool_isB vc.1) (fun t ht hW => ⟨⟨r_1, (), rfl, vc.2, QB_mk (hP.sub [] rfl) (hD.sub [] rfl rfl) ht⟩, hS.F ht⟩) hS.2.2 dX9_isLetter_11

theorem mwX9_begin_1 : Cond.fieldLink RX9 31 "HassockSeeModel" "which" "[I" ∈ wsX9_begin := List.mem_of_getElem? (i := 1) rfl
theorem mwX9_begin_2 : Cond.fieldLink RX9 104 "HassockSeeModel" "acts" "I" ∈ wsX9_begin := List.mem_of_getElem? (i := 2) rfl
theorem mcX9_begin_X9 : ∀ w ∈ u_ws RX9 TX9 30, w ∈ wsX9_begin := fun _ h => (List.mem_cons_of_mem _ (List.mem_append_right _ h))
def KX9_begin (l : Launch) (D : va_G) (cI cZ : ClassId) (P : Int32 → Int32 → (Nat → Int32) → (Nat → Int32) → (Nat → Int32) → Prop) (Q : Int32 → Int32 → (Nat → Int32) → (Nat → Int32) → (Nat → Int32) → Int32 → Int32 → (Nat → Int32) → (Nat → Int32) → (Nat → Int32) → Prop) : Prop := ∀ (sz : Nat) (h_this h_this_wool h_this_stitches h_this_place h_this_sightSundays h_this_sightWool h_this_pad h_this_act h_this_which h_this_much h_this_had h_this_rows h_this_groups h_this_covers h_this_byWool h_this_wins h_this_kept h_this_isKept : Nat) (p0 : Int32) (v_present : Int32) (v_chest : Int32) (v_years : Int32) (v_sights : Int32) (v_padMany : Int32) (v_acts : Int32) (v_sweptMany : Int32) (v_badAct : Int32) (v_badWhy : Int32) (v_sweptAct : Int32) (v_sweptWhich : Int32) (v_keptAt : Int32) (v_isWriting : Int32) (v_act : (Nat → Int32)) (v_much : (Nat → Int32)) (v_which : (Nat → Int32)), P p0 v_acts v_act v_much v_which → MI l yX9_begin wsX9_begin ({ frames := 2, cells := 0, slots := 0, locals := 45 }) [.ref h_this, .int p0] D cI cZ sz [(h_this, .inr (9, [.int v_present, .ref h_this_wool, .ref h_this_stitches, .ref h_this_place, .int v_chest, .int v_years, .ref h_this_sightSundays, .ref h_this_sightWool, .int v_sights, .ref h_this_pad, .int v_padMany, .ref h_this_act, .ref h_this_which, .ref h_this_much, .int v_acts, .int v_sweptMany, .ref h_this_had, .int v_badAct, .int v_badWhy, .int v_sweptAct, .int v_sweptWhich, .ref h_this_rows, .ref h_this_groups, .ref h_this_covers, .ref h_this_byWool, .ref h_this_wins, .ref h_this_kept, .ref h_this_isKept, .int v_keptAt, .int v_isWriting])), (h_this_act, .inl (cI, 60, .inl v_act)), (h_this_much, .inl (cI, 60, .inl v_much)), (h_this_which, .inl (cI, 60, .inl v_which))] (fun r (u : Int32 × (Nat → Int32) × (Nat → Int32) × (Nat → Int32)) => Q p0 v_acts v_act v_much v_which r (u.1) (u.2.1) (u.2.2.1) (u.2.2.2)) (fun u => [(h_this, .inr (9, [.int v_present, .ref h_this_wool, .ref h_this_stitches, .ref h_this_place, .int v_chest, .int v_years, .ref h_this_sightSundays, .ref h_this_sightWool, .int v_sights, .ref h_this_pad, .int v_padMany, .ref h_this_act, .ref h_this_which, .ref h_this_much, .int (u.1), .int v_sweptMany, .ref h_this_had, .int v_badAct, .int v_badWhy, .int v_sweptAct, .int v_sweptWhich, .ref h_this_rows, .ref h_this_groups, .ref h_this_covers, .ref h_this_byWool, .ref h_this_wins, .ref h_this_kept, .ref h_this_isKept, .int v_keptAt, .int v_isWriting])), (h_this_act, .inl (cI, 60, .inl (u.2.1))), (h_this_much, .inl (cI, 60, .inl (u.2.2.1))), (h_this_which, .inl (cI, 60, .inl (u.2.2.2)))]) 0 0
set_option maxHeartbeats 4000000 in
set_option maxRecDepth 100000 in
theorem walkX9_begin {l : Launch} {D : va_G} {cI cZ : ClassId} {PX9_begin : Int32 → Int32 → (Nat → Int32) → (Nat → Int32) → (Nat → Int32) → Prop} {QX9_begin : Int32 → Int32 → (Nat → Int32) → (Nat → Int32) → (Nat → Int32) → Int32 → Int32 → (Nat → Int32) → (Nat → Int32) → (Nat → Int32) → Prop} {PX9_isLetter : Int32 → Prop} {QX9_isLetter : Int32 → Int32 → Prop} {PX9_close : Int32 → Int32 → Int32 → (Nat → Int32) → (Nat → Int32) → Prop} {QX9_close : Int32 → Int32 → Int32 → (Nat → Int32) → (Nat → Int32) → Int32 → Int32 → (Nat → Int32) → (Nat → Int32) → Prop} (kX9_isLetter : KX9_isLetter l D cI cZ PX9_isLetter QX9_isLetter) (kX9_close : KX9_close l D cI cZ PX9_close QX9_close) (hvc : ∀ (p0 : Int32) (v_acts : Int32) (v_act : (Nat → Int32)) (v_much : (Nat → Int32)) (v_which : (Nat → Int32)), PX9_begin p0 v_acts v_act v_much v_which → (PX9_isLetter p0 ∧ (∀ r_1 : Int32, QX9_isLetter p0 r_1 → ((r_1 = 0 → (vp_in v_acts 60 ∧ (PX9_isLetter p0 ∧ (∀ r_3 : Int32, QX9_isLetter p0 r_3 → ((r_3 = 0 → ((¬ p0 = (46 : Int32) → (QX9_begin p0 v_acts v_act v_much v_which (-6 : Int32) v_acts v_act v_much (upd v_which (v_acts).toNatClampNeg (0 : Int32)))) ∧ (p0 = (46 : Int32) → (PX9_close (6 : Int32) (0 : Int32) v_acts v_act v_much ∧ (∀ (r_7 : Int32) (g_4 : Int32) (f_5 : (Nat → Int32)) (f_6 : (Nat → Int32)), QX9_close (6 : Int32) (0 : Int32) v_acts v_act v_much r_7 g_4 f_5 f_6 → (QX9_begin p0 v_acts v_act v_much v_which r_7 g_4 f_5 f_6 (upd v_which (v_acts).toNatClampNeg (0 : Int32)))))))) ∧ (¬ r_3 = 0 → (QX9_begin p0 v_acts v_act v_much v_which (1 : Int32) v_acts v_act v_much (upd v_which (v_acts).toNatClampNeg (0 : Int32))))))))) ∧ (¬ r_1 = 0 → (∀ x_8 : Int32, x_8 = (p0 - (65 : Int32)) → (vp_in v_acts 60 ∧ (PX9_isLetter p0 ∧ (∀ r_10 : Int32, QX9_isLetter p0 r_10 → ((r_10 = 0 → ((¬ p0 = (46 : Int32) → (QX9_begin p0 v_acts v_act v_much v_which (-6 : Int32) v_acts v_act v_much (upd v_which (v_acts).toNatClampNeg x_8))) ∧ (p0 = (46 : Int32) → (PX9_close (6 : Int32) (0 : Int32) v_acts v_act v_much ∧ (∀ (r_14 : Int32) (g_11 : Int32) (f_12 : (Nat → Int32)) (f_13 : (Nat → Int32)), QX9_close (6 : Int32) (0 : Int32) v_acts v_act v_much r_14 g_11 f_12 f_13 → (QX9_begin p0 v_acts v_act v_much v_which r_14 g_11 f_12 f_13 (upd v_which (v_acts).toNatClampNeg x_8))))))) ∧ (¬ r_10 = 0 → (QX9_begin p0 v_acts v_act v_much v_which (1 : Int32) v_acts v_act v_much (upd v_which (v_acts).toNatClampNeg x_8))))))))))))) : KX9_begin l D cI cZ PX9_begin QX9_begin := by
  intro sz h_this h_this_wool h_this_stitches h_this_place h_this_sightSundays h_this_sightWool h_this_pad h_this_act h_this_which h_this_much h_this_had h_this_rows h_this_groups h_this_covers h_this_byWool h_this_wins h_this_kept h_this_isKept p0 v_present v_chest v_years v_sights v_padMany v_acts v_sweptMany v_badAct v_badWhy v_sweptAct v_sweptWhich v_keptAt v_isWriting v_act v_much v_which hpre
  have vc := hvc p0 v_acts v_act v_much v_which hpre
  clear hvc
  refine Met.ofW (cc := cX9_begin) (maxL := 2) (ret := (some .int)) (by decide) rfl ?_
  intro p e s m args below meth c s₁ B hml hv
  obtain ⟨rfl, hsz, hP, hK, hD0⟩ := hv
  have hx := B.exec
  have hb := B.bytes
  have hr := B.returns
  have hts := atoms_spec (ws := wsX9_begin) B.pre
  have hown : s.vm.findClass RX9 = some m.cls := findClass_of_methodNamed B.named
  have hlocks := B.notSynchronized
  subst hsz
  have hD := hD0.self (sz := s.heap.size)
  generalize hAe : va_A [(h_this, .inr (9, [.int v_present, .ref h_this_wool, .ref h_this_stitches, .ref h_this_place, .int v_chest, .int v_years, .ref h_this_sightSundays, .ref h_this_sightWool, .int v_sights, .ref h_this_pad, .int v_padMany, .ref h_this_act, .ref h_this_which, .ref h_this_much, .int v_acts, .int v_sweptMany, .ref h_this_had, .int v_badAct, .int v_badWhy, .int v_sweptAct, .int v_sweptWhich, .ref h_this_rows, .ref h_this_groups, .ref h_this_covers, .ref h_this_byWool, .ref h_this_wins, .ref h_this_kept, .ref h_this_isKept, .int v_keptAt, .int v_isWriting])), (h_this_act, .inl (cI, 60, .inl v_act)), (h_this_much, .inl (cI, 60, .inl v_much)), (h_this_which, .inl (cI, 60, .inl v_which))] s.heap.size = A at hD ⊢
  have hA : ∀ q : Nat, s.heap.size ≤ q → A q := fun q h => by rw [← hAe]; exact Or.inr h
  have hS : va_S A s.heap s.heap [] := va_S.rf
  have hP : va_P D vwCl [(h_this, .inr (9, [.int v_present, .ref h_this_wool, .ref h_this_stitches, .ref h_this_place, .int v_chest, .int v_years, .ref h_this_sightSundays, .ref h_this_sightWool, .int v_sights, .ref h_this_pad, .int v_padMany, .ref h_this_act, .ref h_this_which, .ref h_this_much, .int v_acts, .int v_sweptMany, .ref h_this_had, .int v_badAct, .int v_badWhy, .int v_sweptAct, .int v_sweptWhich, .ref h_this_rows, .ref h_this_groups, .ref h_this_covers, .ref h_this_byWool, .ref h_this_wins, .ref h_this_kept, .ref h_this_isKept, .int v_keptAt, .int v_isWriting])), (h_this_act, .inl (cI, 60, .inl v_act)), (h_this_much, .inl (cI, 60, .inl v_much)), (h_this_which, .inl (cI, 60, .inl v_which))] s.heap := hP
  have hl := lv_entry ([.ref h_this, .int p0]) (n := 2) (Nat.le_of_ble_eq_true rfl)
  rw [lg_entry_eq]
  generalize (lg_sl ([.ref h_this, .int p0]) ++ List.replicate (2 - (lg_sl ([.ref h_this, .int p0])).length) Slot.unset).toArray = ls at hl ⊢
  have hl : lv_has ls 2 [(0, .ref h_this), (1, .int p0)] := hl
  refine lv_aload_n hx hb dX9_begin_0 rfl (lv_at hl 0 rfl) ?_
  refine va_get (D := D) (ci := 9) (v := .ref h_this_which) (C := RX9) (T := TX9) (N := 30) hx hb hts mcX9_begin_X9 hown hK.1 hP 0 rfl rfl 12 (by decide) (hts _ mwX9_begin_1) (fun _ h9 => h9) rfl dX9_begin_1 ?_
  refine lv_aload_n hx hb dX9_begin_4 rfl (lv_at hl 0 rfl) ?_
  refine va_get (D := D) (ci := 9) (v := .int v_acts) (C := RX9) (T := TX9) (N := 30) hx hb hts mcX9_begin_X9 hown hK.1 hP 0 rfl rfl 14 (by decide) (hts _ mwX9_begin_2) (fun _ h9 => h9) rfl dX9_begin_5 ?_
  refine lv_iload_n hx hb dX9_begin_8 rfl (lv_at hl 1 rfl) ?_
  refine kj0_i (rest := [.int v_acts, .ref h_this_which]) (kS ⟨hx, hb, hml, hown, hts⟩ (kX9_isLetter _ p0 vc.1) (va_cwS 1 hts gX9_begin_X9_isLetter rfl rfl rfl (by decide +kernel) ⟨(Nat.le_of_ble_eq_true rfl), (Nat.le_of_ble_eq_true rfl)⟩) hK rfl rfl hl.1 (Nat.le_of_ble_eq_true rfl) dX9_begin_9 ⟨(Nat.le_of_ble_eq_true rfl), (Nat.le_of_ble_eq_true rfl)⟩) hP hS hA (fun r_1 H locs hq_ hP hS => ?_)
  replace vc := vc.2 r_1 hq_
  have hP : va_P D vwCl [(h_this, .inr (9, [.int v_present, .ref h_this_wool, .ref h_this_stitches, .ref h_this_place, .int v_chest, .int v_years, .ref h_this_sightSundays, .ref h_this_sightWool, .int v_sights, .ref h_this_pad, .int v_padMany, .ref h_this_act, .ref h_this_which, .ref h_this_much, .int v_acts, .int v_sweptMany, .ref h_this_had, .int v_badAct, .int v_badWhy, .int v_sweptAct, .int v_sweptWhich, .ref h_this_rows, .ref h_this_groups, .ref h_this_covers, .ref h_this_byWool, .ref h_this_wins, .ref h_this_kept, .ref h_this_isKept, .int v_keptAt, .int v_isWriting])), (h_this_act, .inl (cI, 60, .inl v_act)), (h_this_much, .inl (cI, 60, .inl v_much)), (h_this_which, .inl (cI, 60, .inl v_which))] H := hP
  refine lv_if_eq (tgt := 22) hx hb dX9_begin_12 (by decide) (fun c_ => ?_) (fun c_ => ?_)
  · replace vc := vc.1 c_
    refine lv_iconst (v := (0 : Int32)) hx hb dX9_begin_22 (by decide) ?_
    have hi_2 := vc.1
    replace vc := vc.2
    refine va_iast hx hb hK.1 hP hD hS 3 0 rfl rfl hi_2 dX9_begin_23 (fun H locs hP hD hS => ?_)
    have hP : va_P D vwCl [(h_this, .inr (9, [.int v_present, .ref h_this_wool, .ref h_this_stitches, .ref h_this_place, .int v_chest, .int v_years, .ref h_this_sightSundays, .ref h_this_sightWool, .int v_sights, .ref h_this_pad, .int v_padMany, .ref h_this_act, .ref h_this_which, .ref h_this_much, .int v_acts, .int v_sweptMany, .ref h_this_had, .int v_badAct, .int v_badWhy, .int v_sweptAct, .int v_sweptWhich, .ref h_this_rows, .ref h_this_groups, .ref h_this_covers, .ref h_this_byWool, .ref h_this_wins, .ref h_this_kept, .ref h_this_isKept, .int v_keptAt, .int v_isWriting])), (h_this_act, .inl (cI, 60, .inl v_act)), (h_this_much, .inl (cI, 60, .inl v_much)), (h_this_which, .inl (cI, 60, .inl (upd v_which (v_acts).toNatClampNeg (0 : Int32))))] H := hP
    have hD : va_D A [(h_this, .inr (9, [.int v_present, .ref h_this_wool, .ref h_this_stitches, .ref h_this_place, .int v_chest, .int v_years, .ref h_this_sightSundays, .ref h_this_sightWool, .int v_sights, .ref h_this_pad, .int v_padMany, .ref h_this_act, .ref h_this_which, .ref h_this_much, .int v_acts, .int v_sweptMany, .ref h_this_had, .int v_badAct, .int v_badWhy, .int v_sweptAct, .int v_sweptWhich, .ref h_this_rows, .ref h_this_groups, .ref h_this_covers, .ref h_this_byWool, .ref h_this_wins, .ref h_this_kept, .ref h_this_isKept, .int v_keptAt, .int v_isWriting])), (h_this_act, .inl (cI, 60, .inl v_act)), (h_this_much, .inl (cI, 60, .inl v_much)), (h_this_which, .inl (cI, 60, .inl (upd v_which (v_acts).toNatClampNeg (0 : Int32))))] := hD
    refine lv_iload_n hx hb dX9_begin_24 rfl (lv_at hl 1 rfl) ?_
    refine kj0_i (rest := []) (kS ⟨hx, hb, hml, hown, hts⟩ (kX9_isLetter _ p0 vc.1) (va_cwS 1 hts gX9_begin_X9_isLetter rfl rfl rfl (by decide +kernel) ⟨(Nat.le_of_ble_eq_true rfl), (Nat.le_of_ble_eq_true rfl)⟩) hK rfl rfl hl.1 (Nat.le_of_ble_eq_true rfl) dX9_begin_25 ⟨(Nat.le_of_ble_eq_true rfl), (Nat.le_of_ble_eq_true rfl)⟩) hP hS hA (fun r_3 H locs hq_ hP hS => ?_)
    replace vc := vc.2 r_3 hq_
    have hP : va_P D vwCl [(h_this, .inr (9, [.int v_present, .ref h_this_wool, .ref h_this_stitches, .ref h_this_place, .int v_chest, .int v_years, .ref h_this_sightSundays, .ref h_this_sightWool, .int v_sights, .ref h_this_pad, .int v_padMany, .ref h_this_act, .ref h_this_which, .ref h_this_much, .int v_acts, .int v_sweptMany, .ref h_this_had, .int v_badAct, .int v_badWhy, .int v_sweptAct, .int v_sweptWhich, .ref h_this_rows, .ref h_this_groups, .ref h_this_covers, .ref h_this_byWool, .ref h_this_wins, .ref h_this_kept, .ref h_this_isKept, .int v_keptAt, .int v_isWriting])), (h_this_act, .inl (cI, 60, .inl v_act)), (h_this_much, .inl (cI, 60, .inl v_much)), (h_this_which, .inl (cI, 60, .inl (upd v_which (v_acts).toNatClampNeg (0 : Int32))))] H := hP
    refine lv_if_eq (tgt := 35) hx hb dX9_begin_28 (by decide) (fun c_ => ?_) (fun c_ => ?_)
    · replace vc := vc.1 c_
      refine lv_iload_n hx hb dX9_begin_35 rfl (lv_at hl 1 rfl) ?_
      refine lv_bipush (v := (46 : Int32)) hx hb dX9_begin_36 (by decide) ?_
      refine lv_icmp_ne (tgt := 51) hx hb dX9_begin_38 (by decide) (fun c_ => ?_) (fun c_ => ?_)
      · replace vc := vc.1 c_
        refine lv_bipush (v := (-6 : Int32)) hx hb dX9_begin_51 (by decide) ?_
        exact W.iret (v := (-6 : Int32)) hx hb hr (fun t ht hW => ⟨⟨(-6 : Int32), (v_acts, v_act, v_much, (upd v_which (v_acts).toNatClampNeg (0 : Int32))), rfl, vc, QB_mk (hP.sub [0, 1, 2, 3] rfl) (hD.sub [0, 1, 2, 3] rfl rfl) ht⟩, hS.F ht⟩) hS.2.2 dX9_begin_53
      · replace vc := vc.2 c_
        refine lv_aload_n hx hb dX9_begin_41 rfl (lv_at hl 0 rfl) ?_
        refine lv_bipush (v := (6 : Int32)) hx hb dX9_begin_42 (by decide) ?_
        refine lv_iconst (v := (0 : Int32)) hx hb dX9_begin_44 (by decide) ?_
        refine kj_i (wr := [(h_this_which, .inl (cI, 60, .inl (upd v_which (v_acts).toNatClampNeg (0 : Int32))))]) (rest := []) (kV ⟨hx, hb, hml, hown, hts⟩ (kX9_close _ h_this h_this_wool h_this_stitches h_this_place h_this_sightSundays h_this_sightWool h_this_pad h_this_act h_this_which h_this_much h_this_had h_this_rows h_this_groups h_this_covers h_this_byWool h_this_wins h_this_kept h_this_isKept (6 : Int32) (0 : Int32) v_present v_chest v_years v_sights v_padMany v_acts v_sweptMany v_badAct v_badWhy v_sweptAct v_sweptWhich v_keptAt v_isWriting v_act v_much vc.1) (cwV 2 hts gX9_begin_X9_close rfl rfl rfl (by decide +kernel) ⟨(Nat.le_of_ble_eq_true rfl), (Nat.le_of_ble_eq_true rfl)⟩) hK hP hD [0, 1, 2] rfl rfl 0 9 rfl rfl rfl rfl rfl hl.1 (Nat.le_of_ble_eq_true rfl) dX9_begin_45 ⟨(Nat.le_of_ble_eq_true rfl), (Nat.le_of_ble_eq_true rfl)⟩) hP hD hS hA [0, 1, 2] [3] rfl rfl rfl rfl (fun r_7 u_ H locs hq_ hP hD hS => ?_)
        obtain ⟨g_4, f_5, f_6⟩ := u_
        replace vc := vc.2 r_7 g_4 f_5 f_6 hq_
        have hP : va_P D vwCl [(h_this_which, .inl (cI, 60, .inl (upd v_which (v_acts).toNatClampNeg (0 : Int32)))), (h_this, .inr (9, [.int v_present, .ref h_this_wool, .ref h_this_stitches, .ref h_this_place, .int v_chest, .int v_years, .ref h_this_sightSundays, .ref h_this_sightWool, .int v_sights, .ref h_this_pad, .int v_padMany, .ref h_this_act, .ref h_this_which, .ref h_this_much, .int g_4, .int v_sweptMany, .ref h_this_had, .int v_badAct, .int v_badWhy, .int v_sweptAct, .int v_sweptWhich, .ref h_this_rows, .ref h_this_groups, .ref h_this_covers, .ref h_this_byWool, .ref h_this_wins, .ref h_this_kept, .ref h_this_isKept, .int v_keptAt, .int v_isWriting])), (h_this_act, .inl (cI, 60, .inl f_5)), (h_this_much, .inl (cI, 60, .inl f_6))] H := hP
        have hD : va_D A [(h_this_which, .inl (cI, 60, .inl (upd v_which (v_acts).toNatClampNeg (0 : Int32)))), (h_this, .inr (9, [.int v_present, .ref h_this_wool, .ref h_this_stitches, .ref h_this_place, .int v_chest, .int v_years, .ref h_this_sightSundays, .ref h_this_sightWool, .int v_sights, .ref h_this_pad, .int v_padMany, .ref h_this_act, .ref h_this_which, .ref h_this_much, .int g_4, .int v_sweptMany, .ref h_this_had, .int v_badAct, .int v_badWhy, .int v_sweptAct, .int v_sweptWhich, .ref h_this_rows, .ref h_this_groups, .ref h_this_covers, .ref h_this_byWool, .ref h_this_wins, .ref h_this_kept, .ref h_this_isKept, .int v_keptAt, .int v_isWriting])), (h_this_act, .inl (cI, 60, .inl f_5)), (h_this_much, .inl (cI, 60, .inl f_6))] := hD
        refine lv_goto (tgt := 53) hx hb dX9_begin_48 (by decide) ?_
        exact W.iret (v := r_7) hx hb hr (fun t ht hW => ⟨⟨r_7, (g_4, f_5, f_6, (upd v_which (v_acts).toNatClampNeg (0 : Int32))), rfl, vc, QB_mk (hP.sub [1, 2, 3, 0] rfl) (hD.sub [1, 2, 3, 0] rfl rfl) ht⟩, hS.F ht⟩) hS.2.2 dX9_begin_53
    · replace vc := vc.2 c_
      refine lv_iconst (v := (1 : Int32)) hx hb dX9_begin_31 (by decide) ?_
      refine lv_goto (tgt := 53) hx hb dX9_begin_32 (by decide) ?_
      exact W.iret (v := (1 : Int32)) hx hb hr (fun t ht hW => ⟨⟨(1 : Int32), (v_acts, v_act, v_much, (upd v_which (v_acts).toNatClampNeg (0 : Int32))), rfl, vc, QB_mk (hP.sub [0, 1, 2, 3] rfl) (hD.sub [0, 1, 2, 3] rfl rfl) ht⟩, hS.F ht⟩) hS.2.2 dX9_begin_53
  · replace vc := vc.2 c_
    refine lv_iload_n hx hb dX9_begin_15 rfl (lv_at hl 1 rfl) ?_
    refine lv_bipush (v := (65 : Int32)) hx hb dX9_begin_16 (by decide) ?_
    refine lv_isub hx hb dX9_begin_18 ?_
    refine lv_goto (tgt := 23) hx hb dX9_begin_19 (by decide) ?_
    refine lv_topi (fun x_8 ex_8 => ?_)
    replace vc := vc x_8 ex_8
    have hi_9 := vc.1
    replace vc := vc.2
    refine va_iast hx hb hK.1 hP hD hS 3 0 rfl rfl hi_9 dX9_begin_23 (fun H locs hP hD hS => ?_)
    have hP : va_P D vwCl [(h_this, .inr (9, [.int v_present, .ref h_this_wool, .ref h_this_stitches, .ref h_this_place, .int v_chest, .int v_years, .ref h_this_sightSundays, .ref h_this_sightWool, .int v_sights, .ref h_this_pad, .int v_padMany, .ref h_this_act, .ref h_this_which, .ref h_this_much, .int v_acts, .int v_sweptMany, .ref h_this_had, .int v_badAct, .int v_badWhy, .int v_sweptAct, .int v_sweptWhich, .ref h_this_rows, .ref h_this_groups, .ref h_this_covers, .ref h_this_byWool, .ref h_this_wins, .ref h_this_kept, .ref h_this_isKept, .int v_keptAt, .int v_isWriting])), (h_this_act, .inl (cI, 60, .inl v_act)), (h_this_much, .inl (cI, 60, .inl v_much)), (h_this_which, .inl (cI, 60, .inl (upd v_which (v_acts).toNatClampNeg x_8)))] H := hP
    have hD : va_D A [(h_this, .inr (9, [.int v_present, .ref h_this_wool, .ref h_this_stitches, .ref h_this_place, .int v_chest, .int v_years, .ref h_this_sightSundays, .ref h_this_sightWool, .int v_sights, .ref h_this_pad, .int v_padMany, .ref h_this_act, .ref h_this_which, .ref h_this_much, .int v_acts, .int v_sweptMany, .ref h_this_had, .int v_badAct, .int v_badWhy, .int v_sweptAct, .int v_sweptWhich, .ref h_this_rows, .ref h_this_groups, .ref h_this_covers, .ref h_this_byWool, .ref h_this_wins, .ref h_this_kept, .ref h_this_isKept, .int v_keptAt, .int v_isWriting])), (h_this_act, .inl (cI, 60, .inl v_act)), (h_this_much, .inl (cI, 60, .inl v_much)), (h_this_which, .inl (cI, 60, .inl (upd v_which (v_acts).toNatClampNeg x_8)))] := hD
    refine lv_iload_n hx hb dX9_begin_24 rfl (lv_at hl 1 rfl) ?_
    refine kj0_i (rest := []) (kS ⟨hx, hb, hml, hown, hts⟩ (kX9_isLetter _ p0 vc.1) (va_cwS 1 hts gX9_begin_X9_isLetter rfl rfl rfl (by decide +kernel) ⟨(Nat.le_of_ble_eq_true rfl), (Nat.le_of_ble_eq_true rfl)⟩) hK rfl rfl hl.1 (Nat.le_of_ble_eq_true rfl) dX9_begin_25 ⟨(Nat.le_of_ble_eq_true rfl), (Nat.le_of_ble_eq_true rfl)⟩) hP hS hA (fun r_10 H locs hq_ hP hS => ?_)
    replace vc := vc.2 r_10 hq_
    have hP : va_P D vwCl [(h_this, .inr (9, [.int v_present, .ref h_this_wool, .ref h_this_stitches, .ref h_this_place, .int v_chest, .int v_years, .ref h_this_sightSundays, .ref h_this_sightWool, .int v_sights, .ref h_this_pad, .int v_padMany, .ref h_this_act, .ref h_this_which, .ref h_this_much, .int v_acts, .int v_sweptMany, .ref h_this_had, .int v_badAct, .int v_badWhy, .int v_sweptAct, .int v_sweptWhich, .ref h_this_rows, .ref h_this_groups, .ref h_this_covers, .ref h_this_byWool, .ref h_this_wins, .ref h_this_kept, .ref h_this_isKept, .int v_keptAt, .int v_isWriting])), (h_this_act, .inl (cI, 60, .inl v_act)), (h_this_much, .inl (cI, 60, .inl v_much)), (h_this_which, .inl (cI, 60, .inl (upd v_which (v_acts).toNatClampNeg x_8)))] H := hP
    refine lv_if_eq (tgt := 35) hx hb dX9_begin_28 (by decide) (fun c_ => ?_) (fun c_ => ?_)
    · replace vc := vc.1 c_
      refine lv_iload_n hx hb dX9_begin_35 rfl (lv_at hl 1 rfl) ?_
      refine lv_bipush (v := (46 : Int32)) hx hb dX9_begin_36 (by decide) ?_
      refine lv_icmp_ne (tgt := 51) hx hb dX9_begin_38 (by decide) (fun c_ => ?_) (fun c_ => ?_)
      · replace vc := vc.1 c_
        refine lv_bipush (v := (-6 : Int32)) hx hb dX9_begin_51 (by decide) ?_
        exact W.iret (v := (-6 : Int32)) hx hb hr (fun t ht hW => ⟨⟨(-6 : Int32), (v_acts, v_act, v_much, (upd v_which (v_acts).toNatClampNeg x_8)), rfl, vc, QB_mk (hP.sub [0, 1, 2, 3] rfl) (hD.sub [0, 1, 2, 3] rfl rfl) ht⟩, hS.F ht⟩) hS.2.2 dX9_begin_53
      · replace vc := vc.2 c_
        refine lv_aload_n hx hb dX9_begin_41 rfl (lv_at hl 0 rfl) ?_
        refine lv_bipush (v := (6 : Int32)) hx hb dX9_begin_42 (by decide) ?_
        refine lv_iconst (v := (0 : Int32)) hx hb dX9_begin_44 (by decide) ?_
        refine kj_i (wr := [(h_this_which, .inl (cI, 60, .inl (upd v_which (v_acts).toNatClampNeg x_8)))]) (rest := []) (kV ⟨hx, hb, hml, hown, hts⟩ (kX9_close _ h_this h_this_wool h_this_stitches h_this_place h_this_sightSundays h_this_sightWool h_this_pad h_this_act h_this_which h_this_much h_this_had h_this_rows h_this_groups h_this_covers h_this_byWool h_this_wins h_this_kept h_this_isKept (6 : Int32) (0 : Int32) v_present v_chest v_years v_sights v_padMany v_acts v_sweptMany v_badAct v_badWhy v_sweptAct v_sweptWhich v_keptAt v_isWriting v_act v_much vc.1) (cwV 2 hts gX9_begin_X9_close rfl rfl rfl (by decide +kernel) ⟨(Nat.le_of_ble_eq_true rfl), (Nat.le_of_ble_eq_true rfl)⟩) hK hP hD [0, 1, 2] rfl rfl 0 9 rfl rfl rfl rfl rfl hl.1 (Nat.le_of_ble_eq_true rfl) dX9_begin_45 ⟨(Nat.le_of_ble_eq_true rfl), (Nat.le_of_ble_eq_true rfl)⟩) hP hD hS hA [0, 1, 2] [3] rfl rfl rfl rfl (fun r_14 u_ H locs hq_ hP hD hS => ?_)
        obtain ⟨g_11, f_12, f_13⟩ := u_
        replace vc := vc.2 r_14 g_11 f_12 f_13 hq_
        have hP : va_P D vwCl [(h_this_which, .inl (cI, 60, .inl (upd v_which (v_acts).toNatClampNeg x_8))), (h_this, .inr (9, [.int v_present, .ref h_this_wool, .ref h_this_stitches, .ref h_this_place, .int v_chest, .int v_years, .ref h_this_sightSundays, .ref h_this_sightWool, .int v_sights, .ref h_this_pad, .int v_padMany, .ref h_this_act, .ref h_this_which, .ref h_this_much, .int g_11, .int v_sweptMany, .ref h_this_had, .int v_badAct, .int v_badWhy, .int v_sweptAct, .int v_sweptWhich, .ref h_this_rows, .ref h_this_groups, .ref h_this_covers, .ref h_this_byWool, .ref h_this_wins, .ref h_this_kept, .ref h_this_isKept, .int v_keptAt, .int v_isWriting])), (h_this_act, .inl (cI, 60, .inl f_12)), (h_this_much, .inl (cI, 60, .inl f_13))] H := hP
        have hD : va_D A [(h_this_which, .inl (cI, 60, .inl (upd v_which (v_acts).toNatClampNeg x_8))), (h_this, .inr (9, [.int v_present, .ref h_this_wool, .ref h_this_stitches, .ref h_this_place, .int v_chest, .int v_years, .ref h_this_sightSundays, .ref h_this_sightWool, .int v_sights, .ref h_this_pad, .int v_padMany, .ref h_this_act, .ref h_this_which, .ref h_this_much, .int g_11, .int v_sweptMany, .ref h_this_had, .int v_badAct, .int v_badWhy, .int v_sweptAct, .int v_sweptWhich, .ref h_this_rows, .ref h_this_groups, .ref h_this_covers, .ref h_this_byWool, .ref h_this_wins, .ref h_this_kept, .ref h_this_isKept, .int v_keptAt, .int v_isWriting])), (h_this_act, .inl (cI, 60, .inl f_12)), (h_this_much, .inl (cI, 60, .inl f_13))] := hD
        refine lv_goto (tgt := 53) hx hb dX9_begin_48 (by decide) ?_
        exact W.iret (v := r_14) hx hb hr (fun t ht hW => ⟨⟨r_14, (g_11, f_12, f_13, (upd v_which (v_acts).toNatClampNeg x_8)), rfl, vc, QB_mk (hP.sub [1, 2, 3, 0] rfl) (hD.sub [1, 2, 3, 0] rfl rfl) ht⟩, hS.F ht⟩) hS.2.2 dX9_begin_53
    · replace vc := vc.2 c_
      refine lv_iconst (v := (1 : Int32)) hx hb dX9_begin_31 (by decide) ?_
      refine lv_goto (tgt := 53) hx hb dX9_begin_32 (by decide) ?_
      exact W.iret (v := (1 : Int32)) hx hb hr (fun t ht hW => ⟨⟨(1 : Int32), (v_acts, v_act, v_much, (upd v_which (v_acts).toNatClampNeg x_8)), rfl, vc, QB_mk (hP.sub [0, 1, 2, 3] rfl) (hD.sub [0, 1, 2, 3] rfl rfl) ht⟩, hS.F ht⟩) hS.2.2 dX9_begin_53

theorem mwX9_deed_1 : Cond.constantLong RX9 118 (49) ∈ wsX9_deed := List.mem_of_getElem? (i := 1) rfl
theorem mwX9_deed_2 : Cond.constantLong RX9 120 (57) ∈ wsX9_deed := List.mem_of_getElem? (i := 2) rfl
def KX9_deed (l : Launch) (D : va_G) (cI cZ : ClassId) (P : Int32 → Int32 → (Nat → Int32) → (Nat → Int32) → Prop) (Q : Int32 → Int32 → (Nat → Int32) → (Nat → Int32) → Int32 → Int32 → (Nat → Int32) → (Nat → Int32) → Prop) : Prop := ∀ (sz : Nat) (h_this h_this_wool h_this_stitches h_this_place h_this_sightSundays h_this_sightWool h_this_pad h_this_act h_this_which h_this_much h_this_had h_this_rows h_this_groups h_this_covers h_this_byWool h_this_wins h_this_kept h_this_isKept : Nat) (p0 : Int32) (v_present : Int32) (v_chest : Int32) (v_years : Int32) (v_sights : Int32) (v_padMany : Int32) (v_acts : Int32) (v_sweptMany : Int32) (v_badAct : Int32) (v_badWhy : Int32) (v_sweptAct : Int32) (v_sweptWhich : Int32) (v_keptAt : Int32) (v_isWriting : Int32) (v_act : (Nat → Int32)) (v_much : (Nat → Int32)), P p0 v_acts v_act v_much → MI l yX9_deed wsX9_deed ({ frames := 1, cells := 0, slots := 0, locals := 25 }) [.ref h_this, .int p0] D cI cZ sz [(h_this, .inr (9, [.int v_present, .ref h_this_wool, .ref h_this_stitches, .ref h_this_place, .int v_chest, .int v_years, .ref h_this_sightSundays, .ref h_this_sightWool, .int v_sights, .ref h_this_pad, .int v_padMany, .ref h_this_act, .ref h_this_which, .ref h_this_much, .int v_acts, .int v_sweptMany, .ref h_this_had, .int v_badAct, .int v_badWhy, .int v_sweptAct, .int v_sweptWhich, .ref h_this_rows, .ref h_this_groups, .ref h_this_covers, .ref h_this_byWool, .ref h_this_wins, .ref h_this_kept, .ref h_this_isKept, .int v_keptAt, .int v_isWriting])), (h_this_act, .inl (cI, 60, .inl v_act)), (h_this_much, .inl (cI, 60, .inl v_much))] (fun r (u : Int32 × (Nat → Int32) × (Nat → Int32)) => Q p0 v_acts v_act v_much r (u.1) (u.2.1) (u.2.2)) (fun u => [(h_this, .inr (9, [.int v_present, .ref h_this_wool, .ref h_this_stitches, .ref h_this_place, .int v_chest, .int v_years, .ref h_this_sightSundays, .ref h_this_sightWool, .int v_sights, .ref h_this_pad, .int v_padMany, .ref h_this_act, .ref h_this_which, .ref h_this_much, .int (u.1), .int v_sweptMany, .ref h_this_had, .int v_badAct, .int v_badWhy, .int v_sweptAct, .int v_sweptWhich, .ref h_this_rows, .ref h_this_groups, .ref h_this_covers, .ref h_this_byWool, .ref h_this_wins, .ref h_this_kept, .ref h_this_isKept, .int v_keptAt, .int v_isWriting])), (h_this_act, .inl (cI, 60, .inl (u.2.1))), (h_this_much, .inl (cI, 60, .inl (u.2.2)))]) 0 0
set_option maxHeartbeats 4000000 in
set_option maxRecDepth 100000 in
theorem walkX9_deed {l : Launch} {D : va_G} {cI cZ : ClassId} {PX9_deed : Int32 → Int32 → (Nat → Int32) → (Nat → Int32) → Prop} {QX9_deed : Int32 → Int32 → (Nat → Int32) → (Nat → Int32) → Int32 → Int32 → (Nat → Int32) → (Nat → Int32) → Prop} {PX9_close : Int32 → Int32 → Int32 → (Nat → Int32) → (Nat → Int32) → Prop} {QX9_close : Int32 → Int32 → Int32 → (Nat → Int32) → (Nat → Int32) → Int32 → Int32 → (Nat → Int32) → (Nat → Int32) → Prop} {PX9_in : Int64 → Int64 → Int64 → Prop} {QX9_in : Int64 → Int64 → Int64 → Int32 → Prop} (kX9_close : KX9_close l D cI cZ PX9_close QX9_close) (kX9_in : KX9_in l D cI cZ PX9_in QX9_in) (hvc : ∀ (p0 : Int32) (v_acts : Int32) (v_act : (Nat → Int32)) (v_much : (Nat → Int32)), PX9_deed p0 v_acts v_act v_much → ((p0 = (36 : Int32) → (PX9_close (5 : Int32) (0 : Int32) v_acts v_act v_much ∧ (∀ (r_4 : Int32) (g_1 : Int32) (f_2 : (Nat → Int32)) (f_3 : (Nat → Int32)), QX9_close (5 : Int32) (0 : Int32) v_acts v_act v_much r_4 g_1 f_2 f_3 → (QX9_deed p0 v_acts v_act v_much r_4 g_1 f_2 f_3)))) ∧ (¬ p0 = (36 : Int32) → ((p0 = (38 : Int32) → (QX9_deed p0 v_acts v_act v_much (3 : Int32) v_acts v_act v_much)) ∧ (¬ p0 = (38 : Int32) → ((p0 = (42 : Int32) → (QX9_deed p0 v_acts v_act v_much (2 : Int32) v_acts v_act v_much)) ∧ (¬ p0 = (42 : Int32) → ((p0 = (43 : Int32) → (PX9_close (1 : Int32) (0 : Int32) v_acts v_act v_much ∧ (∀ (r_8 : Int32) (g_5 : Int32) (f_6 : (Nat → Int32)) (f_7 : (Nat → Int32)), QX9_close (1 : Int32) (0 : Int32) v_acts v_act v_much r_8 g_5 f_6 f_7 → (QX9_deed p0 v_acts v_act v_much r_8 g_5 f_6 f_7)))) ∧ (¬ p0 = (43 : Int32) → ((p0 = (61 : Int32) → (QX9_deed p0 v_acts v_act v_much (4 : Int32) v_acts v_act v_much)) ∧ (¬ p0 = (61 : Int32) → (PX9_in (p0.toInt64) (49 : Int64) (57 : Int64) ∧ (∀ r_9 : Int32, QX9_in (p0.toInt64) (49 : Int64) (57 : Int64) r_9 → ((r_9 = 0 → (QX9_deed p0 v_acts v_act v_much (-6 : Int32) v_acts v_act v_much)) ∧ (¬ r_9 = 0 → (PX9_close (0 : Int32) (p0 - (48 : Int32)) v_acts v_act v_much ∧ (∀ (r_13 : Int32) (g_10 : Int32) (f_11 : (Nat → Int32)) (f_12 : (Nat → Int32)), QX9_close (0 : Int32) (p0 - (48 : Int32)) v_acts v_act v_much r_13 g_10 f_11 f_12 → (QX9_deed p0 v_acts v_act v_much r_13 g_10 f_11 f_12)))))))))))))))))) : KX9_deed l D cI cZ PX9_deed QX9_deed := by
  intro sz h_this h_this_wool h_this_stitches h_this_place h_this_sightSundays h_this_sightWool h_this_pad h_this_act h_this_which h_this_much h_this_had h_this_rows h_this_groups h_this_covers h_this_byWool h_this_wins h_this_kept h_this_isKept p0 v_present v_chest v_years v_sights v_padMany v_acts v_sweptMany v_badAct v_badWhy v_sweptAct v_sweptWhich v_keptAt v_isWriting v_act v_much hpre
  have vc := hvc p0 v_acts v_act v_much hpre
  clear hvc
  refine Met.ofW (cc := cX9_deed) (maxL := 2) (ret := (some .int)) (by decide) rfl ?_
  intro p e s m args below meth c s₁ B hml hv
  obtain ⟨rfl, hsz, hP, hK, hD0⟩ := hv
  have hx := B.exec
  have hb := B.bytes
  have hr := B.returns
  have hts := atoms_spec (ws := wsX9_deed) B.pre
  have hown : s.vm.findClass RX9 = some m.cls := findClass_of_methodNamed B.named
  have hlocks := B.notSynchronized
  subst hsz
  have hD := hD0.self (sz := s.heap.size)
  generalize hAe : va_A [(h_this, .inr (9, [.int v_present, .ref h_this_wool, .ref h_this_stitches, .ref h_this_place, .int v_chest, .int v_years, .ref h_this_sightSundays, .ref h_this_sightWool, .int v_sights, .ref h_this_pad, .int v_padMany, .ref h_this_act, .ref h_this_which, .ref h_this_much, .int v_acts, .int v_sweptMany, .ref h_this_had, .int v_badAct, .int v_badWhy, .int v_sweptAct, .int v_sweptWhich, .ref h_this_rows, .ref h_this_groups, .ref h_this_covers, .ref h_this_byWool, .ref h_this_wins, .ref h_this_kept, .ref h_this_isKept, .int v_keptAt, .int v_isWriting])), (h_this_act, .inl (cI, 60, .inl v_act)), (h_this_much, .inl (cI, 60, .inl v_much))] s.heap.size = A at hD ⊢
  have hA : ∀ q : Nat, s.heap.size ≤ q → A q := fun q h => by rw [← hAe]; exact Or.inr h
  have hS : va_S A s.heap s.heap [] := va_S.rf
  have hP : va_P D vwCl [(h_this, .inr (9, [.int v_present, .ref h_this_wool, .ref h_this_stitches, .ref h_this_place, .int v_chest, .int v_years, .ref h_this_sightSundays, .ref h_this_sightWool, .int v_sights, .ref h_this_pad, .int v_padMany, .ref h_this_act, .ref h_this_which, .ref h_this_much, .int v_acts, .int v_sweptMany, .ref h_this_had, .int v_badAct, .int v_badWhy, .int v_sweptAct, .int v_sweptWhich, .ref h_this_rows, .ref h_this_groups, .ref h_this_covers, .ref h_this_byWool, .ref h_this_wins, .ref h_this_kept, .ref h_this_isKept, .int v_keptAt, .int v_isWriting])), (h_this_act, .inl (cI, 60, .inl v_act)), (h_this_much, .inl (cI, 60, .inl v_much))] s.heap := hP
  have hl := lv_entry ([.ref h_this, .int p0]) (n := 2) (Nat.le_of_ble_eq_true rfl)
  rw [lg_entry_eq]
  generalize (lg_sl ([.ref h_this, .int p0]) ++ List.replicate (2 - (lg_sl ([.ref h_this, .int p0])).length) Slot.unset).toArray = ls at hl ⊢
  have hl : lv_has ls 2 [(0, .ref h_this), (1, .int p0)] := hl
  refine lv_iload_n hx hb dX9_deed_0 rfl (lv_at hl 1 rfl) ?_
  by_cases c1_0 : p0 = (36 : Int32)
  · replace vc := vc.1 c1_0
    refine lv_lookup (off := 58) (tgt := 59) hx hb dX9_deed_1 (by decide) (by rw [c1_0]; decide) (by decide) ?_
    refine lv_aload_n hx hb dX9_deed_59 rfl (lv_at hl 0 rfl) ?_
    refine lv_iconst (v := (5 : Int32)) hx hb dX9_deed_60 (by decide) ?_
    refine lv_iconst (v := (0 : Int32)) hx hb dX9_deed_61 (by decide) ?_
    refine kj_i (wr := []) (rest := []) (kV ⟨hx, hb, hml, hown, hts⟩ (kX9_close _ h_this h_this_wool h_this_stitches h_this_place h_this_sightSundays h_this_sightWool h_this_pad h_this_act h_this_which h_this_much h_this_had h_this_rows h_this_groups h_this_covers h_this_byWool h_this_wins h_this_kept h_this_isKept (5 : Int32) (0 : Int32) v_present v_chest v_years v_sights v_padMany v_acts v_sweptMany v_badAct v_badWhy v_sweptAct v_sweptWhich v_keptAt v_isWriting v_act v_much vc.1) (cwV 2 hts gX9_deed_X9_close rfl rfl rfl (by decide +kernel) ⟨(Nat.le_of_ble_eq_true rfl), (Nat.le_of_ble_eq_true rfl)⟩) hK hP hD [0, 1, 2] rfl rfl 0 9 rfl rfl rfl rfl rfl hl.1 (Nat.le_of_ble_eq_true rfl) dX9_deed_62 ⟨(Nat.le_of_ble_eq_true rfl), (Nat.le_of_ble_eq_true rfl)⟩) hP hD hS hA [0, 1, 2] [] rfl rfl rfl rfl (fun r_4 u_ H locs hq_ hP hD hS => ?_)
    obtain ⟨g_1, f_2, f_3⟩ := u_
    replace vc := vc.2 r_4 g_1 f_2 f_3 hq_
    have hP : va_P D vwCl [(h_this, .inr (9, [.int v_present, .ref h_this_wool, .ref h_this_stitches, .ref h_this_place, .int v_chest, .int v_years, .ref h_this_sightSundays, .ref h_this_sightWool, .int v_sights, .ref h_this_pad, .int v_padMany, .ref h_this_act, .ref h_this_which, .ref h_this_much, .int g_1, .int v_sweptMany, .ref h_this_had, .int v_badAct, .int v_badWhy, .int v_sweptAct, .int v_sweptWhich, .ref h_this_rows, .ref h_this_groups, .ref h_this_covers, .ref h_this_byWool, .ref h_this_wins, .ref h_this_kept, .ref h_this_isKept, .int v_keptAt, .int v_isWriting])), (h_this_act, .inl (cI, 60, .inl f_2)), (h_this_much, .inl (cI, 60, .inl f_3))] H := hP
    have hD : va_D A [(h_this, .inr (9, [.int v_present, .ref h_this_wool, .ref h_this_stitches, .ref h_this_place, .int v_chest, .int v_years, .ref h_this_sightSundays, .ref h_this_sightWool, .int v_sights, .ref h_this_pad, .int v_padMany, .ref h_this_act, .ref h_this_which, .ref h_this_much, .int g_1, .int v_sweptMany, .ref h_this_had, .int v_badAct, .int v_badWhy, .int v_sweptAct, .int v_sweptWhich, .ref h_this_rows, .ref h_this_groups, .ref h_this_covers, .ref h_this_byWool, .ref h_this_wins, .ref h_this_kept, .ref h_this_isKept, .int v_keptAt, .int v_isWriting])), (h_this_act, .inl (cI, 60, .inl f_2)), (h_this_much, .inl (cI, 60, .inl f_3))] := hD
    exact W.iret (v := r_4) hx hb hr (fun t ht hW => ⟨⟨r_4, (g_1, f_2, f_3), rfl, vc, QB_mk (hP.sub [0, 1, 2] rfl) (hD.sub [0, 1, 2] rfl rfl) ht⟩, hS.F ht⟩) hS.2.2 dX9_deed_65
  · replace vc := vc.2 c1_0
    by_cases c1_1 : p0 = (38 : Int32)
    · replace vc := vc.1 c1_1
      refine lv_lookup (off := 67) (tgt := 68) hx hb dX9_deed_1 (by decide) (by rw [c1_1]; decide) (by decide) ?_
      refine lv_iconst (v := (3 : Int32)) hx hb dX9_deed_68 (by decide) ?_
      exact W.iret (v := (3 : Int32)) hx hb hr (fun t ht hW => ⟨⟨(3 : Int32), (v_acts, v_act, v_much), rfl, vc, QB_mk (hP.sub [0, 1, 2] rfl) (hD.sub [0, 1, 2] rfl rfl) ht⟩, hS.F ht⟩) hS.2.2 dX9_deed_69
    · replace vc := vc.2 c1_1
      by_cases c1_2 : p0 = (42 : Int32)
      · replace vc := vc.1 c1_2
        refine lv_lookup (off := 65) (tgt := 66) hx hb dX9_deed_1 (by decide) (by rw [c1_2]; decide) (by decide) ?_
        refine lv_iconst (v := (2 : Int32)) hx hb dX9_deed_66 (by decide) ?_
        exact W.iret (v := (2 : Int32)) hx hb hr (fun t ht hW => ⟨⟨(2 : Int32), (v_acts, v_act, v_much), rfl, vc, QB_mk (hP.sub [0, 1, 2] rfl) (hD.sub [0, 1, 2] rfl rfl) ht⟩, hS.F ht⟩) hS.2.2 dX9_deed_67
      · replace vc := vc.2 c1_2
        by_cases c1_3 : p0 = (43 : Int32)
        · replace vc := vc.1 c1_3
          refine lv_lookup (off := 51) (tgt := 52) hx hb dX9_deed_1 (by decide) (by rw [c1_3]; decide) (by decide) ?_
          refine lv_aload_n hx hb dX9_deed_52 rfl (lv_at hl 0 rfl) ?_
          refine lv_iconst (v := (1 : Int32)) hx hb dX9_deed_53 (by decide) ?_
          refine lv_iconst (v := (0 : Int32)) hx hb dX9_deed_54 (by decide) ?_
          refine kj_i (wr := []) (rest := []) (kV ⟨hx, hb, hml, hown, hts⟩ (kX9_close _ h_this h_this_wool h_this_stitches h_this_place h_this_sightSundays h_this_sightWool h_this_pad h_this_act h_this_which h_this_much h_this_had h_this_rows h_this_groups h_this_covers h_this_byWool h_this_wins h_this_kept h_this_isKept (1 : Int32) (0 : Int32) v_present v_chest v_years v_sights v_padMany v_acts v_sweptMany v_badAct v_badWhy v_sweptAct v_sweptWhich v_keptAt v_isWriting v_act v_much vc.1) (cwV 2 hts gX9_deed_X9_close rfl rfl rfl (by decide +kernel) ⟨(Nat.le_of_ble_eq_true rfl), (Nat.le_of_ble_eq_true rfl)⟩) hK hP hD [0, 1, 2] rfl rfl 0 9 rfl rfl rfl rfl rfl hl.1 (Nat.le_of_ble_eq_true rfl) dX9_deed_55 ⟨(Nat.le_of_ble_eq_true rfl), (Nat.le_of_ble_eq_true rfl)⟩) hP hD hS hA [0, 1, 2] [] rfl rfl rfl rfl (fun r_8 u_ H locs hq_ hP hD hS => ?_)
          obtain ⟨g_5, f_6, f_7⟩ := u_
          replace vc := vc.2 r_8 g_5 f_6 f_7 hq_
          have hP : va_P D vwCl [(h_this, .inr (9, [.int v_present, .ref h_this_wool, .ref h_this_stitches, .ref h_this_place, .int v_chest, .int v_years, .ref h_this_sightSundays, .ref h_this_sightWool, .int v_sights, .ref h_this_pad, .int v_padMany, .ref h_this_act, .ref h_this_which, .ref h_this_much, .int g_5, .int v_sweptMany, .ref h_this_had, .int v_badAct, .int v_badWhy, .int v_sweptAct, .int v_sweptWhich, .ref h_this_rows, .ref h_this_groups, .ref h_this_covers, .ref h_this_byWool, .ref h_this_wins, .ref h_this_kept, .ref h_this_isKept, .int v_keptAt, .int v_isWriting])), (h_this_act, .inl (cI, 60, .inl f_6)), (h_this_much, .inl (cI, 60, .inl f_7))] H := hP
          have hD : va_D A [(h_this, .inr (9, [.int v_present, .ref h_this_wool, .ref h_this_stitches, .ref h_this_place, .int v_chest, .int v_years, .ref h_this_sightSundays, .ref h_this_sightWool, .int v_sights, .ref h_this_pad, .int v_padMany, .ref h_this_act, .ref h_this_which, .ref h_this_much, .int g_5, .int v_sweptMany, .ref h_this_had, .int v_badAct, .int v_badWhy, .int v_sweptAct, .int v_sweptWhich, .ref h_this_rows, .ref h_this_groups, .ref h_this_covers, .ref h_this_byWool, .ref h_this_wins, .ref h_this_kept, .ref h_this_isKept, .int v_keptAt, .int v_isWriting])), (h_this_act, .inl (cI, 60, .inl f_6)), (h_this_much, .inl (cI, 60, .inl f_7))] := hD
          exact W.iret (v := r_8) hx hb hr (fun t ht hW => ⟨⟨r_8, (g_5, f_6, f_7), rfl, vc, QB_mk (hP.sub [0, 1, 2] rfl) (hD.sub [0, 1, 2] rfl rfl) ht⟩, hS.F ht⟩) hS.2.2 dX9_deed_58
        · replace vc := vc.2 c1_3
          by_cases c1_4 : p0 = (61 : Int32)
          · replace vc := vc.1 c1_4
            refine lv_lookup (off := 69) (tgt := 70) hx hb dX9_deed_1 (by decide) (by rw [c1_4]; decide) (by decide) ?_
            refine lv_iconst (v := (4 : Int32)) hx hb dX9_deed_70 (by decide) ?_
            exact W.iret (v := (4 : Int32)) hx hb hr (fun t ht hW => ⟨⟨(4 : Int32), (v_acts, v_act, v_much), rfl, vc, QB_mk (hP.sub [0, 1, 2] rfl) (hD.sub [0, 1, 2] rfl rfl) ht⟩, hS.F ht⟩) hS.2.2 dX9_deed_71
          · replace vc := vc.2 c1_4
            refine lv_lookup (off := 71) (tgt := 72) hx hb dX9_deed_1 (by decide) (by show Op.lookupswitch.offset [(36, 58), (38, 67), (42, 65), (43, 51), (61, 69)] _ _ = _; rw [lv_osw c1_0 (by decide), lv_osw c1_1 (by decide), lv_osw c1_2 (by decide), lv_osw c1_3 (by decide), lv_osw c1_4 (by decide)]; rfl) (by decide) ?_
            refine lv_iload_n hx hb dX9_deed_72 rfl (lv_at hl 1 rfl) ?_
            refine lv_i2l hx hb dX9_deed_73 rfl ?_
            refine lv_ldc2 (v := (49 : Int64)) hx hb hown (hts _ mwX9_deed_1) dX9_deed_74 ?_
            refine lv_ldc2 (v := (57 : Int64)) hx hb hown (hts _ mwX9_deed_2) dX9_deed_77 ?_
            refine kj0_i (rest := []) (kS ⟨hx, hb, hml, hown, hts⟩ (kX9_in _ (p0.toInt64) (49 : Int64) (57 : Int64) vc.1) (va_cwS 3 hts gX9_deed_X9_in rfl rfl rfl (by decide +kernel) ⟨(Nat.le_of_ble_eq_true rfl), (Nat.le_of_ble_eq_true rfl)⟩) hK rfl rfl hl.1 (Nat.le_of_ble_eq_true rfl) dX9_deed_80 ⟨(Nat.le_of_ble_eq_true rfl), (Nat.le_of_ble_eq_true rfl)⟩) hP hS hA (fun r_9 H locs hq_ hP hS => ?_)
            replace vc := vc.2 r_9 hq_
            have hP : va_P D vwCl [(h_this, .inr (9, [.int v_present, .ref h_this_wool, .ref h_this_stitches, .ref h_this_place, .int v_chest, .int v_years, .ref h_this_sightSundays, .ref h_this_sightWool, .int v_sights, .ref h_this_pad, .int v_padMany, .ref h_this_act, .ref h_this_which, .ref h_this_much, .int v_acts, .int v_sweptMany, .ref h_this_had, .int v_badAct, .int v_badWhy, .int v_sweptAct, .int v_sweptWhich, .ref h_this_rows, .ref h_this_groups, .ref h_this_covers, .ref h_this_byWool, .ref h_this_wins, .ref h_this_kept, .ref h_this_isKept, .int v_keptAt, .int v_isWriting])), (h_this_act, .inl (cI, 60, .inl v_act)), (h_this_much, .inl (cI, 60, .inl v_much))] H := hP
            refine lv_if_eq (tgt := 98) hx hb dX9_deed_83 (by decide) (fun c_ => ?_) (fun c_ => ?_)
            · replace vc := vc.1 c_
              refine lv_bipush (v := (-6 : Int32)) hx hb dX9_deed_98 (by decide) ?_
              exact W.iret (v := (-6 : Int32)) hx hb hr (fun t ht hW => ⟨⟨(-6 : Int32), (v_acts, v_act, v_much), rfl, vc, QB_mk (hP.sub [0, 1, 2] rfl) (hD.sub [0, 1, 2] rfl rfl) ht⟩, hS.F ht⟩) hS.2.2 dX9_deed_100
            · replace vc := vc.2 c_
              refine lv_aload_n hx hb dX9_deed_86 rfl (lv_at hl 0 rfl) ?_
              refine lv_iconst (v := (0 : Int32)) hx hb dX9_deed_87 (by decide) ?_
              refine lv_iload_n hx hb dX9_deed_88 rfl (lv_at hl 1 rfl) ?_
              refine lv_bipush (v := (48 : Int32)) hx hb dX9_deed_89 (by decide) ?_
              refine lv_isub hx hb dX9_deed_91 ?_
              refine kj_i (wr := []) (rest := []) (kV ⟨hx, hb, hml, hown, hts⟩ (kX9_close _ h_this h_this_wool h_this_stitches h_this_place h_this_sightSundays h_this_sightWool h_this_pad h_this_act h_this_which h_this_much h_this_had h_this_rows h_this_groups h_this_covers h_this_byWool h_this_wins h_this_kept h_this_isKept (0 : Int32) (p0 - (48 : Int32)) v_present v_chest v_years v_sights v_padMany v_acts v_sweptMany v_badAct v_badWhy v_sweptAct v_sweptWhich v_keptAt v_isWriting v_act v_much vc.1) (cwV 2 hts gX9_deed_X9_close rfl rfl rfl (by decide +kernel) ⟨(Nat.le_of_ble_eq_true rfl), (Nat.le_of_ble_eq_true rfl)⟩) hK hP hD [0, 1, 2] rfl rfl 0 9 rfl rfl rfl rfl rfl hl.1 (Nat.le_of_ble_eq_true rfl) dX9_deed_92 ⟨(Nat.le_of_ble_eq_true rfl), (Nat.le_of_ble_eq_true rfl)⟩) hP hD hS hA [0, 1, 2] [] rfl rfl rfl rfl (fun r_13 u_ H locs hq_ hP hD hS => ?_)
              obtain ⟨g_10, f_11, f_12⟩ := u_
              replace vc := vc.2 r_13 g_10 f_11 f_12 hq_
              have hP : va_P D vwCl [(h_this, .inr (9, [.int v_present, .ref h_this_wool, .ref h_this_stitches, .ref h_this_place, .int v_chest, .int v_years, .ref h_this_sightSundays, .ref h_this_sightWool, .int v_sights, .ref h_this_pad, .int v_padMany, .ref h_this_act, .ref h_this_which, .ref h_this_much, .int g_10, .int v_sweptMany, .ref h_this_had, .int v_badAct, .int v_badWhy, .int v_sweptAct, .int v_sweptWhich, .ref h_this_rows, .ref h_this_groups, .ref h_this_covers, .ref h_this_byWool, .ref h_this_wins, .ref h_this_kept, .ref h_this_isKept, .int v_keptAt, .int v_isWriting])), (h_this_act, .inl (cI, 60, .inl f_11)), (h_this_much, .inl (cI, 60, .inl f_12))] H := hP
              have hD : va_D A [(h_this, .inr (9, [.int v_present, .ref h_this_wool, .ref h_this_stitches, .ref h_this_place, .int v_chest, .int v_years, .ref h_this_sightSundays, .ref h_this_sightWool, .int v_sights, .ref h_this_pad, .int v_padMany, .ref h_this_act, .ref h_this_which, .ref h_this_much, .int g_10, .int v_sweptMany, .ref h_this_had, .int v_badAct, .int v_badWhy, .int v_sweptAct, .int v_sweptWhich, .ref h_this_rows, .ref h_this_groups, .ref h_this_covers, .ref h_this_byWool, .ref h_this_wins, .ref h_this_kept, .ref h_this_isKept, .int v_keptAt, .int v_isWriting])), (h_this_act, .inl (cI, 60, .inl f_11)), (h_this_much, .inl (cI, 60, .inl f_12))] := hD
              refine lv_goto (tgt := 100) hx hb dX9_deed_95 (by decide) ?_
              exact W.iret (v := r_13) hx hb hr (fun t ht hW => ⟨⟨r_13, (g_10, f_11, f_12), rfl, vc, QB_mk (hP.sub [0, 1, 2] rfl) (hD.sub [0, 1, 2] rfl rfl) ht⟩, hS.F ht⟩) hS.2.2 dX9_deed_100

theorem mwX9_readOn_1 : Cond.constantLong RX9 128 (48) ∈ wsX9_readOn := List.mem_of_getElem? (i := 1) rfl
theorem mwX9_readOn_2 : Cond.constantLong RX9 130 (55) ∈ wsX9_readOn := List.mem_of_getElem? (i := 2) rfl
def KX9_readOn (l : Launch) (D : va_G) (cI cZ : ClassId) (P : Int32 → Int32 → Int32 → (Nat → Int32) → (Nat → Int32) → (Nat → Int32) → Prop) (Q : Int32 → Int32 → Int32 → (Nat → Int32) → (Nat → Int32) → (Nat → Int32) → Int32 → Int32 → (Nat → Int32) → (Nat → Int32) → (Nat → Int32) → Prop) : Prop := ∀ (sz : Nat) (h_this h_this_wool h_this_stitches h_this_place h_this_sightSundays h_this_sightWool h_this_pad h_this_act h_this_which h_this_much h_this_had h_this_rows h_this_groups h_this_covers h_this_byWool h_this_wins h_this_kept h_this_isKept : Nat) (p0 : Int32) (p1 : Int32) (v_present : Int32) (v_chest : Int32) (v_years : Int32) (v_sights : Int32) (v_padMany : Int32) (v_acts : Int32) (v_sweptMany : Int32) (v_badAct : Int32) (v_badWhy : Int32) (v_sweptAct : Int32) (v_sweptWhich : Int32) (v_keptAt : Int32) (v_isWriting : Int32) (v_act : (Nat → Int32)) (v_much : (Nat → Int32)) (v_which : (Nat → Int32)), P p0 p1 v_acts v_act v_much v_which → MI l yX9_readOn wsX9_readOn ({ frames := 3, cells := 0, slots := 0, locals := 66 }) [.ref h_this, .int p0, .int p1] D cI cZ sz [(h_this, .inr (9, [.int v_present, .ref h_this_wool, .ref h_this_stitches, .ref h_this_place, .int v_chest, .int v_years, .ref h_this_sightSundays, .ref h_this_sightWool, .int v_sights, .ref h_this_pad, .int v_padMany, .ref h_this_act, .ref h_this_which, .ref h_this_much, .int v_acts, .int v_sweptMany, .ref h_this_had, .int v_badAct, .int v_badWhy, .int v_sweptAct, .int v_sweptWhich, .ref h_this_rows, .ref h_this_groups, .ref h_this_covers, .ref h_this_byWool, .ref h_this_wins, .ref h_this_kept, .ref h_this_isKept, .int v_keptAt, .int v_isWriting])), (h_this_act, .inl (cI, 60, .inl v_act)), (h_this_much, .inl (cI, 60, .inl v_much)), (h_this_which, .inl (cI, 60, .inl v_which))] (fun r (u : Int32 × (Nat → Int32) × (Nat → Int32) × (Nat → Int32)) => Q p0 p1 v_acts v_act v_much v_which r (u.1) (u.2.1) (u.2.2.1) (u.2.2.2)) (fun u => [(h_this, .inr (9, [.int v_present, .ref h_this_wool, .ref h_this_stitches, .ref h_this_place, .int v_chest, .int v_years, .ref h_this_sightSundays, .ref h_this_sightWool, .int v_sights, .ref h_this_pad, .int v_padMany, .ref h_this_act, .ref h_this_which, .ref h_this_much, .int (u.1), .int v_sweptMany, .ref h_this_had, .int v_badAct, .int v_badWhy, .int v_sweptAct, .int v_sweptWhich, .ref h_this_rows, .ref h_this_groups, .ref h_this_covers, .ref h_this_byWool, .ref h_this_wins, .ref h_this_kept, .ref h_this_isKept, .int v_keptAt, .int v_isWriting])), (h_this_act, .inl (cI, 60, .inl (u.2.1))), (h_this_much, .inl (cI, 60, .inl (u.2.2.1))), (h_this_which, .inl (cI, 60, .inl (u.2.2.2)))]) 0 0
set_option maxHeartbeats 4000000 in
set_option maxRecDepth 100000 in
theorem walkX9_readOn {l : Launch} {D : va_G} {cI cZ : ClassId} {PX9_readOn : Int32 → Int32 → Int32 → (Nat → Int32) → (Nat → Int32) → (Nat → Int32) → Prop} {QX9_readOn : Int32 → Int32 → Int32 → (Nat → Int32) → (Nat → Int32) → (Nat → Int32) → Int32 → Int32 → (Nat → Int32) → (Nat → Int32) → (Nat → Int32) → Prop} {PX9_isLetter : Int32 → Prop} {QX9_isLetter : Int32 → Int32 → Prop} {PX9_close : Int32 → Int32 → Int32 → (Nat → Int32) → (Nat → Int32) → Prop} {QX9_close : Int32 → Int32 → Int32 → (Nat → Int32) → (Nat → Int32) → Int32 → Int32 → (Nat → Int32) → (Nat → Int32) → Prop} {PX9_in : Int64 → Int64 → Int64 → Prop} {QX9_in : Int64 → Int64 → Int64 → Int32 → Prop} {PX9_deed : Int32 → Int32 → (Nat → Int32) → (Nat → Int32) → Prop} {QX9_deed : Int32 → Int32 → (Nat → Int32) → (Nat → Int32) → Int32 → Int32 → (Nat → Int32) → (Nat → Int32) → Prop} {PX9_begin : Int32 → Int32 → (Nat → Int32) → (Nat → Int32) → (Nat → Int32) → Prop} {QX9_begin : Int32 → Int32 → (Nat → Int32) → (Nat → Int32) → (Nat → Int32) → Int32 → Int32 → (Nat → Int32) → (Nat → Int32) → (Nat → Int32) → Prop} (kX9_isLetter : KX9_isLetter l D cI cZ PX9_isLetter QX9_isLetter) (kX9_close : KX9_close l D cI cZ PX9_close QX9_close) (kX9_in : KX9_in l D cI cZ PX9_in QX9_in) (kX9_deed : KX9_deed l D cI cZ PX9_deed QX9_deed) (kX9_begin : KX9_begin l D cI cZ PX9_begin QX9_begin) (hvc : ∀ (p0 : Int32) (p1 : Int32) (v_acts : Int32) (v_act : (Nat → Int32)) (v_much : (Nat → Int32)) (v_which : (Nat → Int32)), PX9_readOn p0 p1 v_acts v_act v_much v_which → ((¬ p0 = 0 → ((¬ p0 = (1 : Int32) → ((¬ p0 = (2 : Int32) → (PX9_isLetter p1 ∧ (∀ r_1 : Int32, QX9_isLetter p1 r_1 → ((r_1 = 0 → (QX9_readOn p0 p1 v_acts v_act v_much v_which (-6 : Int32) v_acts v_act v_much v_which)) ∧ (¬ r_1 = 0 → ((¬ p0 = (3 : Int32) → (PX9_close (4 : Int32) (p1 - (65 : Int32)) v_acts v_act v_much ∧ (∀ (r_5 : Int32) (g_2 : Int32) (f_3 : (Nat → Int32)) (f_4 : (Nat → Int32)), QX9_close (4 : Int32) (p1 - (65 : Int32)) v_acts v_act v_much r_5 g_2 f_3 f_4 → (QX9_readOn p0 p1 v_acts v_act v_much v_which r_5 g_2 f_3 f_4 v_which)))) ∧ (p0 = (3 : Int32) → (PX9_close (3 : Int32) (p1 - (65 : Int32)) v_acts v_act v_much ∧ (∀ (r_9 : Int32) (g_6 : Int32) (f_7 : (Nat → Int32)) (f_8 : (Nat → Int32)), QX9_close (3 : Int32) (p1 - (65 : Int32)) v_acts v_act v_much r_9 g_6 f_7 f_8 → (QX9_readOn p0 p1 v_acts v_act v_much v_which r_9 g_6 f_7 f_8 v_which)))))))))) ∧ (p0 = (2 : Int32) → (PX9_in (p1.toInt64) (48 : Int64) (55 : Int64) ∧ (∀ r_10 : Int32, QX9_in (p1.toInt64) (48 : Int64) (55 : Int64) r_10 → ((r_10 = 0 → (QX9_readOn p0 p1 v_acts v_act v_much v_which (-6 : Int32) v_acts v_act v_much v_which)) ∧ (¬ r_10 = 0 → (PX9_close (2 : Int32) (p1 - (48 : Int32)) v_acts v_act v_much ∧ (∀ (r_14 : Int32) (g_11 : Int32) (f_12 : (Nat → Int32)) (f_13 : (Nat → Int32)), QX9_close (2 : Int32) (p1 - (48 : Int32)) v_acts v_act v_much r_14 g_11 f_12 f_13 → (QX9_readOn p0 p1 v_acts v_act v_much v_which r_14 g_11 f_12 f_13 v_which)))))))))) ∧ (p0 = (1 : Int32) → (PX9_deed p1 v_acts v_act v_much ∧ (∀ (r_18 : Int32) (g_15 : Int32) (f_16 : (Nat → Int32)) (f_17 : (Nat → Int32)), QX9_deed p1 v_acts v_act v_much r_18 g_15 f_16 f_17 → (QX9_readOn p0 p1 v_acts v_act v_much v_which r_18 g_15 f_16 f_17 v_which)))))) ∧ (p0 = 0 → (PX9_begin p1 v_acts v_act v_much v_which ∧ (∀ (r_23 : Int32) (g_19 : Int32) (f_20 : (Nat → Int32)) (f_21 : (Nat → Int32)) (f_22 : (Nat → Int32)), QX9_begin p1 v_acts v_act v_much v_which r_23 g_19 f_20 f_21 f_22 → (QX9_readOn p0 p1 v_acts v_act v_much v_which r_23 g_19 f_20 f_21 f_22)))))) : KX9_readOn l D cI cZ PX9_readOn QX9_readOn := by
  intro sz h_this h_this_wool h_this_stitches h_this_place h_this_sightSundays h_this_sightWool h_this_pad h_this_act h_this_which h_this_much h_this_had h_this_rows h_this_groups h_this_covers h_this_byWool h_this_wins h_this_kept h_this_isKept p0 p1 v_present v_chest v_years v_sights v_padMany v_acts v_sweptMany v_badAct v_badWhy v_sweptAct v_sweptWhich v_keptAt v_isWriting v_act v_much v_which hpre
  have vc := hvc p0 p1 v_acts v_act v_much v_which hpre
  clear hvc
  refine Met.ofW (cc := cX9_readOn) (maxL := 3) (ret := (some .int)) (by decide) rfl ?_
  intro p e s m args below meth c s₁ B hml hv
  obtain ⟨rfl, hsz, hP, hK, hD0⟩ := hv
  have hx := B.exec
  have hb := B.bytes
  have hr := B.returns
  have hts := atoms_spec (ws := wsX9_readOn) B.pre
  have hown : s.vm.findClass RX9 = some m.cls := findClass_of_methodNamed B.named
  have hlocks := B.notSynchronized
  subst hsz
  have hD := hD0.self (sz := s.heap.size)
  generalize hAe : va_A [(h_this, .inr (9, [.int v_present, .ref h_this_wool, .ref h_this_stitches, .ref h_this_place, .int v_chest, .int v_years, .ref h_this_sightSundays, .ref h_this_sightWool, .int v_sights, .ref h_this_pad, .int v_padMany, .ref h_this_act, .ref h_this_which, .ref h_this_much, .int v_acts, .int v_sweptMany, .ref h_this_had, .int v_badAct, .int v_badWhy, .int v_sweptAct, .int v_sweptWhich, .ref h_this_rows, .ref h_this_groups, .ref h_this_covers, .ref h_this_byWool, .ref h_this_wins, .ref h_this_kept, .ref h_this_isKept, .int v_keptAt, .int v_isWriting])), (h_this_act, .inl (cI, 60, .inl v_act)), (h_this_much, .inl (cI, 60, .inl v_much)), (h_this_which, .inl (cI, 60, .inl v_which))] s.heap.size = A at hD ⊢
  have hA : ∀ q : Nat, s.heap.size ≤ q → A q := fun q h => by rw [← hAe]; exact Or.inr h
  have hS : va_S A s.heap s.heap [] := va_S.rf
  have hP : va_P D vwCl [(h_this, .inr (9, [.int v_present, .ref h_this_wool, .ref h_this_stitches, .ref h_this_place, .int v_chest, .int v_years, .ref h_this_sightSundays, .ref h_this_sightWool, .int v_sights, .ref h_this_pad, .int v_padMany, .ref h_this_act, .ref h_this_which, .ref h_this_much, .int v_acts, .int v_sweptMany, .ref h_this_had, .int v_badAct, .int v_badWhy, .int v_sweptAct, .int v_sweptWhich, .ref h_this_rows, .ref h_this_groups, .ref h_this_covers, .ref h_this_byWool, .ref h_this_wins, .ref h_this_kept, .ref h_this_isKept, .int v_keptAt, .int v_isWriting])), (h_this_act, .inl (cI, 60, .inl v_act)), (h_this_much, .inl (cI, 60, .inl v_much)), (h_this_which, .inl (cI, 60, .inl v_which))] s.heap := hP
  have hl := lv_entry ([.ref h_this, .int p0, .int p1]) (n := 3) (Nat.le_of_ble_eq_true rfl)
  rw [lg_entry_eq]
  generalize (lg_sl ([.ref h_this, .int p0, .int p1]) ++ List.replicate (3 - (lg_sl ([.ref h_this, .int p0, .int p1])).length) Slot.unset).toArray = ls at hl ⊢
  have hl : lv_has ls 3 [(0, .ref h_this), (1, .int p0), (2, .int p1)] := hl
  refine lv_iload_n hx hb dX9_readOn_0 rfl (lv_at hl 1 rfl) ?_
  refine lv_if_ne (tgt := 10) hx hb dX9_readOn_1 (by decide) (fun c_ => ?_) (fun c_ => ?_)
  · replace vc := vc.1 c_
    refine lv_iload_n hx hb dX9_readOn_10 rfl (lv_at hl 1 rfl) ?_
    refine lv_iconst (v := (1 : Int32)) hx hb dX9_readOn_11 (by decide) ?_
    refine lv_icmp_ne (tgt := 21) hx hb dX9_readOn_12 (by decide) (fun c_ => ?_) (fun c_ => ?_)
    · replace vc := vc.1 c_
      refine lv_iload_n hx hb dX9_readOn_21 rfl (lv_at hl 1 rfl) ?_
      refine lv_iconst (v := (2 : Int32)) hx hb dX9_readOn_22 (by decide) ?_
      refine lv_icmp_ne (tgt := 55) hx hb dX9_readOn_23 (by decide) (fun c_ => ?_) (fun c_ => ?_)
      · replace vc := vc.1 c_
        refine lv_iload_n hx hb dX9_readOn_55 rfl (lv_at hl 2 rfl) ?_
        refine kj0_i (rest := []) (kS ⟨hx, hb, hml, hown, hts⟩ (kX9_isLetter _ p1 vc.1) (va_cwS 1 hts gX9_readOn_X9_isLetter rfl rfl rfl (by decide +kernel) ⟨(Nat.le_of_ble_eq_true rfl), (Nat.le_of_ble_eq_true rfl)⟩) hK rfl rfl hl.1 (Nat.le_of_ble_eq_true rfl) dX9_readOn_56 ⟨(Nat.le_of_ble_eq_true rfl), (Nat.le_of_ble_eq_true rfl)⟩) hP hS hA (fun r_1 H locs hq_ hP hS => ?_)
        replace vc := vc.2 r_1 hq_
        have hP : va_P D vwCl [(h_this, .inr (9, [.int v_present, .ref h_this_wool, .ref h_this_stitches, .ref h_this_place, .int v_chest, .int v_years, .ref h_this_sightSundays, .ref h_this_sightWool, .int v_sights, .ref h_this_pad, .int v_padMany, .ref h_this_act, .ref h_this_which, .ref h_this_much, .int v_acts, .int v_sweptMany, .ref h_this_had, .int v_badAct, .int v_badWhy, .int v_sweptAct, .int v_sweptWhich, .ref h_this_rows, .ref h_this_groups, .ref h_this_covers, .ref h_this_byWool, .ref h_this_wins, .ref h_this_kept, .ref h_this_isKept, .int v_keptAt, .int v_isWriting])), (h_this_act, .inl (cI, 60, .inl v_act)), (h_this_much, .inl (cI, 60, .inl v_much)), (h_this_which, .inl (cI, 60, .inl v_which))] H := hP
        refine lv_if_eq (tgt := 83) hx hb dX9_readOn_59 (by decide) (fun c_ => ?_) (fun c_ => ?_)
        · replace vc := vc.1 c_
          refine lv_bipush (v := (-6 : Int32)) hx hb dX9_readOn_83 (by decide) ?_
          exact W.iret (v := (-6 : Int32)) hx hb hr (fun t ht hW => ⟨⟨(-6 : Int32), (v_acts, v_act, v_much, v_which), rfl, vc, QB_mk (hP.sub [0, 1, 2, 3] rfl) (hD.sub [0, 1, 2, 3] rfl rfl) ht⟩, hS.F ht⟩) hS.2.2 dX9_readOn_85
        · replace vc := vc.2 c_
          refine lv_aload_n hx hb dX9_readOn_62 rfl (lv_at hl 0 rfl) ?_
          refine lv_iload_n hx hb dX9_readOn_63 rfl (lv_at hl 1 rfl) ?_
          refine lv_iconst (v := (3 : Int32)) hx hb dX9_readOn_64 (by decide) ?_
          refine lv_icmp_ne (tgt := 72) hx hb dX9_readOn_65 (by decide) (fun c_ => ?_) (fun c_ => ?_)
          · replace vc := vc.1 c_
            refine lv_iconst (v := (4 : Int32)) hx hb dX9_readOn_72 (by decide) ?_
            refine lv_iload_n hx hb dX9_readOn_73 rfl (lv_at hl 2 rfl) ?_
            refine lv_bipush (v := (65 : Int32)) hx hb dX9_readOn_74 (by decide) ?_
            refine lv_isub hx hb dX9_readOn_76 ?_
            refine kj_i (wr := [(h_this_which, .inl (cI, 60, .inl v_which))]) (rest := []) (kV ⟨hx, hb, hml, hown, hts⟩ (kX9_close _ h_this h_this_wool h_this_stitches h_this_place h_this_sightSundays h_this_sightWool h_this_pad h_this_act h_this_which h_this_much h_this_had h_this_rows h_this_groups h_this_covers h_this_byWool h_this_wins h_this_kept h_this_isKept (4 : Int32) (p1 - (65 : Int32)) v_present v_chest v_years v_sights v_padMany v_acts v_sweptMany v_badAct v_badWhy v_sweptAct v_sweptWhich v_keptAt v_isWriting v_act v_much vc.1) (cwV 2 hts gX9_readOn_X9_close rfl rfl rfl (by decide +kernel) ⟨(Nat.le_of_ble_eq_true rfl), (Nat.le_of_ble_eq_true rfl)⟩) hK hP hD [0, 1, 2] rfl rfl 0 9 rfl rfl rfl rfl rfl hl.1 (Nat.le_of_ble_eq_true rfl) dX9_readOn_77 ⟨(Nat.le_of_ble_eq_true rfl), (Nat.le_of_ble_eq_true rfl)⟩) hP hD hS hA [0, 1, 2] [3] rfl rfl rfl rfl (fun r_5 u_ H locs hq_ hP hD hS => ?_)
            obtain ⟨g_2, f_3, f_4⟩ := u_
            replace vc := vc.2 r_5 g_2 f_3 f_4 hq_
            have hP : va_P D vwCl [(h_this_which, .inl (cI, 60, .inl v_which)), (h_this, .inr (9, [.int v_present, .ref h_this_wool, .ref h_this_stitches, .ref h_this_place, .int v_chest, .int v_years, .ref h_this_sightSundays, .ref h_this_sightWool, .int v_sights, .ref h_this_pad, .int v_padMany, .ref h_this_act, .ref h_this_which, .ref h_this_much, .int g_2, .int v_sweptMany, .ref h_this_had, .int v_badAct, .int v_badWhy, .int v_sweptAct, .int v_sweptWhich, .ref h_this_rows, .ref h_this_groups, .ref h_this_covers, .ref h_this_byWool, .ref h_this_wins, .ref h_this_kept, .ref h_this_isKept, .int v_keptAt, .int v_isWriting])), (h_this_act, .inl (cI, 60, .inl f_3)), (h_this_much, .inl (cI, 60, .inl f_4))] H := hP
            have hD : va_D A [(h_this_which, .inl (cI, 60, .inl v_which)), (h_this, .inr (9, [.int v_present, .ref h_this_wool, .ref h_this_stitches, .ref h_this_place, .int v_chest, .int v_years, .ref h_this_sightSundays, .ref h_this_sightWool, .int v_sights, .ref h_this_pad, .int v_padMany, .ref h_this_act, .ref h_this_which, .ref h_this_much, .int g_2, .int v_sweptMany, .ref h_this_had, .int v_badAct, .int v_badWhy, .int v_sweptAct, .int v_sweptWhich, .ref h_this_rows, .ref h_this_groups, .ref h_this_covers, .ref h_this_byWool, .ref h_this_wins, .ref h_this_kept, .ref h_this_isKept, .int v_keptAt, .int v_isWriting])), (h_this_act, .inl (cI, 60, .inl f_3)), (h_this_much, .inl (cI, 60, .inl f_4))] := hD
            refine lv_goto (tgt := 85) hx hb dX9_readOn_80 (by decide) ?_
            exact W.iret (v := r_5) hx hb hr (fun t ht hW => ⟨⟨r_5, (g_2, f_3, f_4, v_which), rfl, vc, QB_mk (hP.sub [1, 2, 3, 0] rfl) (hD.sub [1, 2, 3, 0] rfl rfl) ht⟩, hS.F ht⟩) hS.2.2 dX9_readOn_85
          · replace vc := vc.2 c_
            refine lv_iconst (v := (3 : Int32)) hx hb dX9_readOn_68 (by decide) ?_
            refine lv_goto (tgt := 73) hx hb dX9_readOn_69 (by decide) ?_
            refine lv_iload_n hx hb dX9_readOn_73 rfl (lv_at hl 2 rfl) ?_
            refine lv_bipush (v := (65 : Int32)) hx hb dX9_readOn_74 (by decide) ?_
            refine lv_isub hx hb dX9_readOn_76 ?_
            refine kj_i (wr := [(h_this_which, .inl (cI, 60, .inl v_which))]) (rest := []) (kV ⟨hx, hb, hml, hown, hts⟩ (kX9_close _ h_this h_this_wool h_this_stitches h_this_place h_this_sightSundays h_this_sightWool h_this_pad h_this_act h_this_which h_this_much h_this_had h_this_rows h_this_groups h_this_covers h_this_byWool h_this_wins h_this_kept h_this_isKept (3 : Int32) (p1 - (65 : Int32)) v_present v_chest v_years v_sights v_padMany v_acts v_sweptMany v_badAct v_badWhy v_sweptAct v_sweptWhich v_keptAt v_isWriting v_act v_much vc.1) (cwV 2 hts gX9_readOn_X9_close rfl rfl rfl (by decide +kernel) ⟨(Nat.le_of_ble_eq_true rfl), (Nat.le_of_ble_eq_true rfl)⟩) hK hP hD [0, 1, 2] rfl rfl 0 9 rfl rfl rfl rfl rfl hl.1 (Nat.le_of_ble_eq_true rfl) dX9_readOn_77 ⟨(Nat.le_of_ble_eq_true rfl), (Nat.le_of_ble_eq_true rfl)⟩) hP hD hS hA [0, 1, 2] [3] rfl rfl rfl rfl (fun r_9 u_ H locs hq_ hP hD hS => ?_)
            obtain ⟨g_6, f_7, f_8⟩ := u_
            replace vc := vc.2 r_9 g_6 f_7 f_8 hq_
            have hP : va_P D vwCl [(h_this_which, .inl (cI, 60, .inl v_which)), (h_this, .inr (9, [.int v_present, .ref h_this_wool, .ref h_this_stitches, .ref h_this_place, .int v_chest, .int v_years, .ref h_this_sightSundays, .ref h_this_sightWool, .int v_sights, .ref h_this_pad, .int v_padMany, .ref h_this_act, .ref h_this_which, .ref h_this_much, .int g_6, .int v_sweptMany, .ref h_this_had, .int v_badAct, .int v_badWhy, .int v_sweptAct, .int v_sweptWhich, .ref h_this_rows, .ref h_this_groups, .ref h_this_covers, .ref h_this_byWool, .ref h_this_wins, .ref h_this_kept, .ref h_this_isKept, .int v_keptAt, .int v_isWriting])), (h_this_act, .inl (cI, 60, .inl f_7)), (h_this_much, .inl (cI, 60, .inl f_8))] H := hP
            have hD : va_D A [(h_this_which, .inl (cI, 60, .inl v_which)), (h_this, .inr (9, [.int v_present, .ref h_this_wool, .ref h_this_stitches, .ref h_this_place, .int v_chest, .int v_years, .ref h_this_sightSundays, .ref h_this_sightWool, .int v_sights, .ref h_this_pad, .int v_padMany, .ref h_this_act, .ref h_this_which, .ref h_this_much, .int g_6, .int v_sweptMany, .ref h_this_had, .int v_badAct, .int v_badWhy, .int v_sweptAct, .int v_sweptWhich, .ref h_this_rows, .ref h_this_groups, .ref h_this_covers, .ref h_this_byWool, .ref h_this_wins, .ref h_this_kept, .ref h_this_isKept, .int v_keptAt, .int v_isWriting])), (h_this_act, .inl (cI, 60, .inl f_7)), (h_this_much, .inl (cI, 60, .inl f_8))] := hD
            refine lv_goto (tgt := 85) hx hb dX9_readOn_80 (by decide) ?_
            exact W.iret (v := r_9) hx hb hr (fun t ht hW => ⟨⟨r_9, (g_6, f_7, f_8, v_which), rfl, vc, QB_mk (hP.sub [1, 2, 3, 0] rfl) (hD.sub [1, 2, 3, 0] rfl rfl) ht⟩, hS.F ht⟩) hS.2.2 dX9_readOn_85
      · replace vc := vc.2 c_
        refine lv_iload_n hx hb dX9_readOn_26 rfl (lv_at hl 2 rfl) ?_
        refine lv_i2l hx hb dX9_readOn_27 rfl ?_
        refine lv_ldc2 (v := (48 : Int64)) hx hb hown (hts _ mwX9_readOn_1) dX9_readOn_28 ?_
        refine lv_ldc2 (v := (55 : Int64)) hx hb hown (hts _ mwX9_readOn_2) dX9_readOn_31 ?_
        refine kj0_i (rest := []) (kS ⟨hx, hb, hml, hown, hts⟩ (kX9_in _ (p1.toInt64) (48 : Int64) (55 : Int64) vc.1) (va_cwS 3 hts gX9_readOn_X9_in rfl rfl rfl (by decide +kernel) ⟨(Nat.le_of_ble_eq_true rfl), (Nat.le_of_ble_eq_true rfl)⟩) hK rfl rfl hl.1 (Nat.le_of_ble_eq_true rfl) dX9_readOn_34 ⟨(Nat.le_of_ble_eq_true rfl), (Nat.le_of_ble_eq_true rfl)⟩) hP hS hA (fun r_10 H locs hq_ hP hS => ?_)
        replace vc := vc.2 r_10 hq_
        have hP : va_P D vwCl [(h_this, .inr (9, [.int v_present, .ref h_this_wool, .ref h_this_stitches, .ref h_this_place, .int v_chest, .int v_years, .ref h_this_sightSundays, .ref h_this_sightWool, .int v_sights, .ref h_this_pad, .int v_padMany, .ref h_this_act, .ref h_this_which, .ref h_this_much, .int v_acts, .int v_sweptMany, .ref h_this_had, .int v_badAct, .int v_badWhy, .int v_sweptAct, .int v_sweptWhich, .ref h_this_rows, .ref h_this_groups, .ref h_this_covers, .ref h_this_byWool, .ref h_this_wins, .ref h_this_kept, .ref h_this_isKept, .int v_keptAt, .int v_isWriting])), (h_this_act, .inl (cI, 60, .inl v_act)), (h_this_much, .inl (cI, 60, .inl v_much)), (h_this_which, .inl (cI, 60, .inl v_which))] H := hP
        refine lv_if_eq (tgt := 52) hx hb dX9_readOn_37 (by decide) (fun c_ => ?_) (fun c_ => ?_)
        · replace vc := vc.1 c_
          refine lv_bipush (v := (-6 : Int32)) hx hb dX9_readOn_52 (by decide) ?_
          exact W.iret (v := (-6 : Int32)) hx hb hr (fun t ht hW => ⟨⟨(-6 : Int32), (v_acts, v_act, v_much, v_which), rfl, vc, QB_mk (hP.sub [0, 1, 2, 3] rfl) (hD.sub [0, 1, 2, 3] rfl rfl) ht⟩, hS.F ht⟩) hS.2.2 dX9_readOn_54
        · replace vc := vc.2 c_
          refine lv_aload_n hx hb dX9_readOn_40 rfl (lv_at hl 0 rfl) ?_
          refine lv_iconst (v := (2 : Int32)) hx hb dX9_readOn_41 (by decide) ?_
          refine lv_iload_n hx hb dX9_readOn_42 rfl (lv_at hl 2 rfl) ?_
          refine lv_bipush (v := (48 : Int32)) hx hb dX9_readOn_43 (by decide) ?_
          refine lv_isub hx hb dX9_readOn_45 ?_
          refine kj_i (wr := [(h_this_which, .inl (cI, 60, .inl v_which))]) (rest := []) (kV ⟨hx, hb, hml, hown, hts⟩ (kX9_close _ h_this h_this_wool h_this_stitches h_this_place h_this_sightSundays h_this_sightWool h_this_pad h_this_act h_this_which h_this_much h_this_had h_this_rows h_this_groups h_this_covers h_this_byWool h_this_wins h_this_kept h_this_isKept (2 : Int32) (p1 - (48 : Int32)) v_present v_chest v_years v_sights v_padMany v_acts v_sweptMany v_badAct v_badWhy v_sweptAct v_sweptWhich v_keptAt v_isWriting v_act v_much vc.1) (cwV 2 hts gX9_readOn_X9_close rfl rfl rfl (by decide +kernel) ⟨(Nat.le_of_ble_eq_true rfl), (Nat.le_of_ble_eq_true rfl)⟩) hK hP hD [0, 1, 2] rfl rfl 0 9 rfl rfl rfl rfl rfl hl.1 (Nat.le_of_ble_eq_true rfl) dX9_readOn_46 ⟨(Nat.le_of_ble_eq_true rfl), (Nat.le_of_ble_eq_true rfl)⟩) hP hD hS hA [0, 1, 2] [3] rfl rfl rfl rfl (fun r_14 u_ H locs hq_ hP hD hS => ?_)
          obtain ⟨g_11, f_12, f_13⟩ := u_
          replace vc := vc.2 r_14 g_11 f_12 f_13 hq_
          have hP : va_P D vwCl [(h_this_which, .inl (cI, 60, .inl v_which)), (h_this, .inr (9, [.int v_present, .ref h_this_wool, .ref h_this_stitches, .ref h_this_place, .int v_chest, .int v_years, .ref h_this_sightSundays, .ref h_this_sightWool, .int v_sights, .ref h_this_pad, .int v_padMany, .ref h_this_act, .ref h_this_which, .ref h_this_much, .int g_11, .int v_sweptMany, .ref h_this_had, .int v_badAct, .int v_badWhy, .int v_sweptAct, .int v_sweptWhich, .ref h_this_rows, .ref h_this_groups, .ref h_this_covers, .ref h_this_byWool, .ref h_this_wins, .ref h_this_kept, .ref h_this_isKept, .int v_keptAt, .int v_isWriting])), (h_this_act, .inl (cI, 60, .inl f_12)), (h_this_much, .inl (cI, 60, .inl f_13))] H := hP
          have hD : va_D A [(h_this_which, .inl (cI, 60, .inl v_which)), (h_this, .inr (9, [.int v_present, .ref h_this_wool, .ref h_this_stitches, .ref h_this_place, .int v_chest, .int v_years, .ref h_this_sightSundays, .ref h_this_sightWool, .int v_sights, .ref h_this_pad, .int v_padMany, .ref h_this_act, .ref h_this_which, .ref h_this_much, .int g_11, .int v_sweptMany, .ref h_this_had, .int v_badAct, .int v_badWhy, .int v_sweptAct, .int v_sweptWhich, .ref h_this_rows, .ref h_this_groups, .ref h_this_covers, .ref h_this_byWool, .ref h_this_wins, .ref h_this_kept, .ref h_this_isKept, .int v_keptAt, .int v_isWriting])), (h_this_act, .inl (cI, 60, .inl f_12)), (h_this_much, .inl (cI, 60, .inl f_13))] := hD
          refine lv_goto (tgt := 54) hx hb dX9_readOn_49 (by decide) ?_
          exact W.iret (v := r_14) hx hb hr (fun t ht hW => ⟨⟨r_14, (g_11, f_12, f_13, v_which), rfl, vc, QB_mk (hP.sub [1, 2, 3, 0] rfl) (hD.sub [1, 2, 3, 0] rfl rfl) ht⟩, hS.F ht⟩) hS.2.2 dX9_readOn_54
    · replace vc := vc.2 c_
      refine lv_aload_n hx hb dX9_readOn_15 rfl (lv_at hl 0 rfl) ?_
      refine lv_iload_n hx hb dX9_readOn_16 rfl (lv_at hl 2 rfl) ?_
      refine kj_i (wr := [(h_this_which, .inl (cI, 60, .inl v_which))]) (rest := []) (kV ⟨hx, hb, hml, hown, hts⟩ (kX9_deed _ h_this h_this_wool h_this_stitches h_this_place h_this_sightSundays h_this_sightWool h_this_pad h_this_act h_this_which h_this_much h_this_had h_this_rows h_this_groups h_this_covers h_this_byWool h_this_wins h_this_kept h_this_isKept p1 v_present v_chest v_years v_sights v_padMany v_acts v_sweptMany v_badAct v_badWhy v_sweptAct v_sweptWhich v_keptAt v_isWriting v_act v_much vc.1) (cwV 1 hts gX9_readOn_X9_deed rfl rfl rfl (by decide +kernel) ⟨(Nat.le_of_ble_eq_true rfl), (Nat.le_of_ble_eq_true rfl)⟩) hK hP hD [0, 1, 2] rfl rfl 0 9 rfl rfl rfl rfl rfl hl.1 (Nat.le_of_ble_eq_true rfl) dX9_readOn_17 ⟨(Nat.le_of_ble_eq_true rfl), (Nat.le_of_ble_eq_true rfl)⟩) hP hD hS hA [0, 1, 2] [3] rfl rfl rfl rfl (fun r_18 u_ H locs hq_ hP hD hS => ?_)
      obtain ⟨g_15, f_16, f_17⟩ := u_
      replace vc := vc.2 r_18 g_15 f_16 f_17 hq_
      have hP : va_P D vwCl [(h_this_which, .inl (cI, 60, .inl v_which)), (h_this, .inr (9, [.int v_present, .ref h_this_wool, .ref h_this_stitches, .ref h_this_place, .int v_chest, .int v_years, .ref h_this_sightSundays, .ref h_this_sightWool, .int v_sights, .ref h_this_pad, .int v_padMany, .ref h_this_act, .ref h_this_which, .ref h_this_much, .int g_15, .int v_sweptMany, .ref h_this_had, .int v_badAct, .int v_badWhy, .int v_sweptAct, .int v_sweptWhich, .ref h_this_rows, .ref h_this_groups, .ref h_this_covers, .ref h_this_byWool, .ref h_this_wins, .ref h_this_kept, .ref h_this_isKept, .int v_keptAt, .int v_isWriting])), (h_this_act, .inl (cI, 60, .inl f_16)), (h_this_much, .inl (cI, 60, .inl f_17))] H := hP
      have hD : va_D A [(h_this_which, .inl (cI, 60, .inl v_which)), (h_this, .inr (9, [.int v_present, .ref h_this_wool, .ref h_this_stitches, .ref h_this_place, .int v_chest, .int v_years, .ref h_this_sightSundays, .ref h_this_sightWool, .int v_sights, .ref h_this_pad, .int v_padMany, .ref h_this_act, .ref h_this_which, .ref h_this_much, .int g_15, .int v_sweptMany, .ref h_this_had, .int v_badAct, .int v_badWhy, .int v_sweptAct, .int v_sweptWhich, .ref h_this_rows, .ref h_this_groups, .ref h_this_covers, .ref h_this_byWool, .ref h_this_wins, .ref h_this_kept, .ref h_this_isKept, .int v_keptAt, .int v_isWriting])), (h_this_act, .inl (cI, 60, .inl f_16)), (h_this_much, .inl (cI, 60, .inl f_17))] := hD
      exact W.iret (v := r_18) hx hb hr (fun t ht hW => ⟨⟨r_18, (g_15, f_16, f_17, v_which), rfl, vc, QB_mk (hP.sub [1, 2, 3, 0] rfl) (hD.sub [1, 2, 3, 0] rfl rfl) ht⟩, hS.F ht⟩) hS.2.2 dX9_readOn_20
  · replace vc := vc.2 c_
    refine lv_aload_n hx hb dX9_readOn_4 rfl (lv_at hl 0 rfl) ?_
    refine lv_iload_n hx hb dX9_readOn_5 rfl (lv_at hl 2 rfl) ?_
    refine kj_i (wr := []) (rest := []) (kV ⟨hx, hb, hml, hown, hts⟩ (kX9_begin _ h_this h_this_wool h_this_stitches h_this_place h_this_sightSundays h_this_sightWool h_this_pad h_this_act h_this_which h_this_much h_this_had h_this_rows h_this_groups h_this_covers h_this_byWool h_this_wins h_this_kept h_this_isKept p1 v_present v_chest v_years v_sights v_padMany v_acts v_sweptMany v_badAct v_badWhy v_sweptAct v_sweptWhich v_keptAt v_isWriting v_act v_much v_which vc.1) (cwV 1 hts gX9_readOn_X9_begin rfl rfl rfl (by decide +kernel) ⟨(Nat.le_of_ble_eq_true rfl), (Nat.le_of_ble_eq_true rfl)⟩) hK hP hD [0, 1, 2, 3] rfl rfl 0 9 rfl rfl rfl rfl rfl hl.1 (Nat.le_of_ble_eq_true rfl) dX9_readOn_6 ⟨(Nat.le_of_ble_eq_true rfl), (Nat.le_of_ble_eq_true rfl)⟩) hP hD hS hA [0, 1, 2, 3] [] rfl rfl rfl rfl (fun r_23 u_ H locs hq_ hP hD hS => ?_)
    obtain ⟨g_19, f_20, f_21, f_22⟩ := u_
    replace vc := vc.2 r_23 g_19 f_20 f_21 f_22 hq_
    have hP : va_P D vwCl [(h_this, .inr (9, [.int v_present, .ref h_this_wool, .ref h_this_stitches, .ref h_this_place, .int v_chest, .int v_years, .ref h_this_sightSundays, .ref h_this_sightWool, .int v_sights, .ref h_this_pad, .int v_padMany, .ref h_this_act, .ref h_this_which, .ref h_this_much, .int g_19, .int v_sweptMany, .ref h_this_had, .int v_badAct, .int v_badWhy, .int v_sweptAct, .int v_sweptWhich, .ref h_this_rows, .ref h_this_groups, .ref h_this_covers, .ref h_this_byWool, .ref h_this_wins, .ref h_this_kept, .ref h_this_isKept, .int v_keptAt, .int v_isWriting])), (h_this_act, .inl (cI, 60, .inl f_20)), (h_this_much, .inl (cI, 60, .inl f_21)), (h_this_which, .inl (cI, 60, .inl f_22))] H := hP
    have hD : va_D A [(h_this, .inr (9, [.int v_present, .ref h_this_wool, .ref h_this_stitches, .ref h_this_place, .int v_chest, .int v_years, .ref h_this_sightSundays, .ref h_this_sightWool, .int v_sights, .ref h_this_pad, .int v_padMany, .ref h_this_act, .ref h_this_which, .ref h_this_much, .int g_19, .int v_sweptMany, .ref h_this_had, .int v_badAct, .int v_badWhy, .int v_sweptAct, .int v_sweptWhich, .ref h_this_rows, .ref h_this_groups, .ref h_this_covers, .ref h_this_byWool, .ref h_this_wins, .ref h_this_kept, .ref h_this_isKept, .int v_keptAt, .int v_isWriting])), (h_this_act, .inl (cI, 60, .inl f_20)), (h_this_much, .inl (cI, 60, .inl f_21)), (h_this_which, .inl (cI, 60, .inl f_22))] := hD
    exact W.iret (v := r_23) hx hb hr (fun t ht hW => ⟨⟨r_23, (g_19, f_20, f_21, f_22), rfl, vc, QB_mk (hP.sub [0, 1, 2, 3] rfl) (hD.sub [0, 1, 2, 3] rfl rfl) ht⟩, hS.F ht⟩) hS.2.2 dX9_readOn_9

theorem mwX9_fault_1 : Cond.fieldLink RX9 104 "HassockSeeModel" "acts" "I" ∈ wsX9_fault := List.mem_of_getElem? (i := 1) rfl
theorem mwX9_fault_2 : Cond.fieldLink RX9 101 "HassockSeeModel" "padMany" "I" ∈ wsX9_fault := List.mem_of_getElem? (i := 2) rfl
theorem mwX9_fault_3 : Cond.fieldLink RX9 25 "HassockSeeModel" "pad" "[I" ∈ wsX9_fault := List.mem_of_getElem? (i := 3) rfl
theorem mcX9_fault_X9 : ∀ w ∈ u_ws RX9 TX9 30, w ∈ wsX9_fault := fun _ h => (List.mem_cons_of_mem _ (List.mem_append_right _ h))
def KX9_fault (l : Launch) (D : va_G) (cI cZ : ClassId) (P : Int32 → Int32 → (Nat → Int32) → (Nat → Int32) → (Nat → Int32) → (Nat → Int32) → Prop) (Q : Int32 → Int32 → (Nat → Int32) → (Nat → Int32) → (Nat → Int32) → (Nat → Int32) → Int32 → Int32 → (Nat → Int32) → (Nat → Int32) → (Nat → Int32) → Prop) : Prop := ∀ (sz : Nat) (h_this h_this_wool h_this_stitches h_this_place h_this_sightSundays h_this_sightWool h_this_pad h_this_act h_this_which h_this_much h_this_had h_this_rows h_this_groups h_this_covers h_this_byWool h_this_wins h_this_kept h_this_isKept : Nat) (v_present : Int32) (v_chest : Int32) (v_years : Int32) (v_sights : Int32) (v_padMany : Int32) (v_acts : Int32) (v_sweptMany : Int32) (v_badAct : Int32) (v_badWhy : Int32) (v_sweptAct : Int32) (v_sweptWhich : Int32) (v_keptAt : Int32) (v_isWriting : Int32) (v_act : (Nat → Int32)) (v_much : (Nat → Int32)) (v_pad : (Nat → Int32)) (v_which : (Nat → Int32)), P v_padMany v_acts v_act v_much v_pad v_which → MI l yX9_fault wsX9_fault ({ frames := 4, cells := 0, slots := 0, locals := 88 }) [.ref h_this] D cI cZ sz [(h_this, .inr (9, [.int v_present, .ref h_this_wool, .ref h_this_stitches, .ref h_this_place, .int v_chest, .int v_years, .ref h_this_sightSundays, .ref h_this_sightWool, .int v_sights, .ref h_this_pad, .int v_padMany, .ref h_this_act, .ref h_this_which, .ref h_this_much, .int v_acts, .int v_sweptMany, .ref h_this_had, .int v_badAct, .int v_badWhy, .int v_sweptAct, .int v_sweptWhich, .ref h_this_rows, .ref h_this_groups, .ref h_this_covers, .ref h_this_byWool, .ref h_this_wins, .ref h_this_kept, .ref h_this_isKept, .int v_keptAt, .int v_isWriting])), (h_this_act, .inl (cI, 60, .inl v_act)), (h_this_much, .inl (cI, 60, .inl v_much)), (h_this_pad, .inl (cI, 60, .inl v_pad)), (h_this_which, .inl (cI, 60, .inl v_which))] (fun r (u : Int32 × (Nat → Int32) × (Nat → Int32) × (Nat → Int32)) => Q v_padMany v_acts v_act v_much v_pad v_which r (u.1) (u.2.1) (u.2.2.1) (u.2.2.2)) (fun u => [(h_this, .inr (9, [.int v_present, .ref h_this_wool, .ref h_this_stitches, .ref h_this_place, .int v_chest, .int v_years, .ref h_this_sightSundays, .ref h_this_sightWool, .int v_sights, .ref h_this_pad, .int v_padMany, .ref h_this_act, .ref h_this_which, .ref h_this_much, .int (u.1), .int v_sweptMany, .ref h_this_had, .int v_badAct, .int v_badWhy, .int v_sweptAct, .int v_sweptWhich, .ref h_this_rows, .ref h_this_groups, .ref h_this_covers, .ref h_this_byWool, .ref h_this_wins, .ref h_this_kept, .ref h_this_isKept, .int v_keptAt, .int v_isWriting])), (h_this_act, .inl (cI, 60, .inl (u.2.1))), (h_this_much, .inl (cI, 60, .inl (u.2.2.1))), (h_this_pad, .inl (cI, 60, .inl v_pad)), (h_this_which, .inl (cI, 60, .inl (u.2.2.2)))]) 0 0
set_option maxHeartbeats 4000000 in
set_option maxRecDepth 100000 in
theorem walkX9_fault {l : Launch} {D : va_G} {cI cZ : ClassId} {PX9_fault : Int32 → Int32 → (Nat → Int32) → (Nat → Int32) → (Nat → Int32) → (Nat → Int32) → Prop} {QX9_fault : Int32 → Int32 → (Nat → Int32) → (Nat → Int32) → (Nat → Int32) → (Nat → Int32) → Int32 → Int32 → (Nat → Int32) → (Nat → Int32) → (Nat → Int32) → Prop} {PX9_readOn : Int32 → Int32 → Int32 → (Nat → Int32) → (Nat → Int32) → (Nat → Int32) → Prop} {QX9_readOn : Int32 → Int32 → Int32 → (Nat → Int32) → (Nat → Int32) → (Nat → Int32) → Int32 → Int32 → (Nat → Int32) → (Nat → Int32) → (Nat → Int32) → Prop} (kX9_readOn : KX9_readOn l D cI cZ PX9_readOn QX9_readOn) (IX9_fault_9 : Int32 → Int32 → (Nat → Int32) → (Nat → Int32) → (Nat → Int32) → (Nat → Int32) → Nat → Int32 → Int32 → Int32 → (Nat → Int32) → (Nat → Int32) → (Nat → Int32) → Prop) (hvc : ∀ (v_padMany : Int32) (v_acts : Int32) (v_act : (Nat → Int32)) (v_much : (Nat → Int32)) (v_pad : (Nat → Int32)) (v_which : (Nat → Int32)), PX9_fault v_padMany v_acts v_act v_much v_pad v_which → ((∃ n0 : Nat, IX9_fault_9 v_padMany v_acts v_act v_much v_pad v_which n0 (0 : Int32) (0 : Int32) (0 : Int32) v_act v_much v_which) ∧ (∀ (n_1 : Nat) (i_2 : Int32) (i_3 : Int32) (g_4 : Int32) (f_5 : (Nat → Int32)) (f_6 : (Nat → Int32)) (f_7 : (Nat → Int32)), (IX9_fault_9 v_padMany v_acts v_act v_much v_pad v_which n_1 i_2 i_3 g_4 f_5 f_6 f_7 → ((v_padMany ≤ i_3 → ((¬ i_2 = 0 → (QX9_fault v_padMany v_acts v_act v_much v_pad v_which v_padMany g_4 f_5 f_6 f_7)) ∧ (i_2 = 0 → (QX9_fault v_padMany v_acts v_act v_much v_pad v_which (-6 : Int32) g_4 f_5 f_6 f_7)))) ∧ (¬ v_padMany ≤ i_3 → (vp_in i_3 60 ∧ (PX9_readOn i_2 (v_pad (i_3).toNatClampNeg) g_4 f_5 f_6 f_7 ∧ (∀ (r_13 : Int32) (g_9 : Int32) (f_10 : (Nat → Int32)) (f_11 : (Nat → Int32)) (f_12 : (Nat → Int32)), QX9_readOn i_2 (v_pad (i_3).toNatClampNeg) g_4 f_5 f_6 f_7 r_13 g_9 f_10 f_11 f_12 → ((0 ≤ r_13 → (∀ x_14 : Int32, x_14 = (i_3 + (1 : Int32)) → (∃ n1 : Nat, n1 < n_1 ∧ IX9_fault_9 v_padMany v_acts v_act v_much v_pad v_which n1 r_13 x_14 g_9 f_10 f_11 f_12))) ∧ (¬ 0 ≤ r_13 → (QX9_fault v_padMany v_acts v_act v_much v_pad v_which i_3 g_9 f_10 f_11 f_12)))))))))))) : KX9_fault l D cI cZ PX9_fault QX9_fault := by
  intro sz h_this h_this_wool h_this_stitches h_this_place h_this_sightSundays h_this_sightWool h_this_pad h_this_act h_this_which h_this_much h_this_had h_this_rows h_this_groups h_this_covers h_this_byWool h_this_wins h_this_kept h_this_isKept v_present v_chest v_years v_sights v_padMany v_acts v_sweptMany v_badAct v_badWhy v_sweptAct v_sweptWhich v_keptAt v_isWriting v_act v_much v_pad v_which hpre
  have vc := hvc v_padMany v_acts v_act v_much v_pad v_which hpre
  clear hvc
  refine Met.ofW (cc := cX9_fault) (maxL := 3) (ret := (some .int)) (by decide) rfl ?_
  intro p e s m args below meth c s₁ B hml hv
  obtain ⟨rfl, hsz, hP, hK, hD0⟩ := hv
  have hx := B.exec
  have hb := B.bytes
  have hr := B.returns
  have hts := atoms_spec (ws := wsX9_fault) B.pre
  have hown : s.vm.findClass RX9 = some m.cls := findClass_of_methodNamed B.named
  have hlocks := B.notSynchronized
  subst hsz
  have hD := hD0.self (sz := s.heap.size)
  generalize hAe : va_A [(h_this, .inr (9, [.int v_present, .ref h_this_wool, .ref h_this_stitches, .ref h_this_place, .int v_chest, .int v_years, .ref h_this_sightSundays, .ref h_this_sightWool, .int v_sights, .ref h_this_pad, .int v_padMany, .ref h_this_act, .ref h_this_which, .ref h_this_much, .int v_acts, .int v_sweptMany, .ref h_this_had, .int v_badAct, .int v_badWhy, .int v_sweptAct, .int v_sweptWhich, .ref h_this_rows, .ref h_this_groups, .ref h_this_covers, .ref h_this_byWool, .ref h_this_wins, .ref h_this_kept, .ref h_this_isKept, .int v_keptAt, .int v_isWriting])), (h_this_act, .inl (cI, 60, .inl v_act)), (h_this_much, .inl (cI, 60, .inl v_much)), (h_this_pad, .inl (cI, 60, .inl v_pad)), (h_this_which, .inl (cI, 60, .inl v_which))] s.heap.size = A at hD ⊢
  have hA : ∀ q : Nat, s.heap.size ≤ q → A q := fun q h => by rw [← hAe]; exact Or.inr h
  have hS : va_S A s.heap s.heap [] := va_S.rf
  have hP : va_P D vwCl [(h_this, .inr (9, [.int v_present, .ref h_this_wool, .ref h_this_stitches, .ref h_this_place, .int v_chest, .int v_years, .ref h_this_sightSundays, .ref h_this_sightWool, .int v_sights, .ref h_this_pad, .int v_padMany, .ref h_this_act, .ref h_this_which, .ref h_this_much, .int v_acts, .int v_sweptMany, .ref h_this_had, .int v_badAct, .int v_badWhy, .int v_sweptAct, .int v_sweptWhich, .ref h_this_rows, .ref h_this_groups, .ref h_this_covers, .ref h_this_byWool, .ref h_this_wins, .ref h_this_kept, .ref h_this_isKept, .int v_keptAt, .int v_isWriting])), (h_this_act, .inl (cI, 60, .inl v_act)), (h_this_much, .inl (cI, 60, .inl v_much)), (h_this_pad, .inl (cI, 60, .inl v_pad)), (h_this_which, .inl (cI, 60, .inl v_which))] s.heap := hP
  have hl := lv_entry ([.ref h_this]) (n := 3) (Nat.le_of_ble_eq_true rfl)
  rw [lg_entry_eq]
  generalize (lg_sl ([.ref h_this]) ++ List.replicate (3 - (lg_sl ([.ref h_this])).length) Slot.unset).toArray = ls at hl ⊢
  have hl : lv_has ls 3 [(0, .ref h_this)] := hl
  refine lv_aload_n hx hb dX9_fault_0 rfl (lv_at hl 0 rfl) ?_
  refine lv_iconst (v := (0 : Int32)) hx hb dX9_fault_1 (by decide) ?_
  refine va_put (D := D) (ci := 9) (v := .int (0 : Int32)) (ty := .int) (C := RX9) (T := TX9) (N := 30) hx hb hts mcX9_fault_X9 tyX9 tyX9_ok nmX9 hown hK.1 hP hD hS 0 rfl rfl 14 (by decide) (hts _ mwX9_fault_1) (fun _ h9 => h9) rfl (by decide +kernel) rfl rfl (Nat.le_of_ble_eq_true rfl) dX9_fault_2 (fun H locs hP hD hS => ?_)
  have hP : va_P D vwCl [(h_this, .inr (9, [.int v_present, .ref h_this_wool, .ref h_this_stitches, .ref h_this_place, .int v_chest, .int v_years, .ref h_this_sightSundays, .ref h_this_sightWool, .int v_sights, .ref h_this_pad, .int v_padMany, .ref h_this_act, .ref h_this_which, .ref h_this_much, .int (0 : Int32), .int v_sweptMany, .ref h_this_had, .int v_badAct, .int v_badWhy, .int v_sweptAct, .int v_sweptWhich, .ref h_this_rows, .ref h_this_groups, .ref h_this_covers, .ref h_this_byWool, .ref h_this_wins, .ref h_this_kept, .ref h_this_isKept, .int v_keptAt, .int v_isWriting])), (h_this_act, .inl (cI, 60, .inl v_act)), (h_this_much, .inl (cI, 60, .inl v_much)), (h_this_pad, .inl (cI, 60, .inl v_pad)), (h_this_which, .inl (cI, 60, .inl v_which))] H := hP
  have hD : va_D A [(h_this, .inr (9, [.int v_present, .ref h_this_wool, .ref h_this_stitches, .ref h_this_place, .int v_chest, .int v_years, .ref h_this_sightSundays, .ref h_this_sightWool, .int v_sights, .ref h_this_pad, .int v_padMany, .ref h_this_act, .ref h_this_which, .ref h_this_much, .int (0 : Int32), .int v_sweptMany, .ref h_this_had, .int v_badAct, .int v_badWhy, .int v_sweptAct, .int v_sweptWhich, .ref h_this_rows, .ref h_this_groups, .ref h_this_covers, .ref h_this_byWool, .ref h_this_wins, .ref h_this_kept, .ref h_this_isKept, .int v_keptAt, .int v_isWriting])), (h_this_act, .inl (cI, 60, .inl v_act)), (h_this_much, .inl (cI, 60, .inl v_much)), (h_this_pad, .inl (cI, 60, .inl v_pad)), (h_this_which, .inl (cI, 60, .inl v_which))] := hD
  refine lv_iconst (v := (0 : Int32)) hx hb dX9_fault_5 (by decide) ?_
  refine lv_istore_n (lv' := [(1, .int (0 : Int32)), (0, .ref h_this)]) hx hb dX9_fault_6 rfl hl (by decide) rfl (fun ls hl => ?_)
  refine lv_iconst (v := (0 : Int32)) hx hb dX9_fault_7 (by decide) ?_
  refine lv_istore_n (lv' := [(2, .int (0 : Int32)), (1, .int (0 : Int32)), (0, .ref h_this)]) hx hb dX9_fault_8 rfl hl (by decide) rfl (fun ls hl => ?_)
  obtain ⟨⟨n0_1, hi0_1⟩, vc⟩ := vc
  refine kloop (V := Int32 × Int32 × Int32 × (Nat → Int32) × (Nat → Int32) × (Nat → Int32)) (I := fun n v => IX9_fault_9 v_padMany v_acts v_act v_much v_pad v_which n (v.1) (v.2.1) (v.2.2.1) (v.2.2.2.1) (v.2.2.2.2.1) (v.2.2.2.2.2)) (wv := fun v => [(h_this, .inr (9, [.int v_present, .ref h_this_wool, .ref h_this_stitches, .ref h_this_place, .int v_chest, .int v_years, .ref h_this_sightSundays, .ref h_this_sightWool, .int v_sights, .ref h_this_pad, .int v_padMany, .ref h_this_act, .ref h_this_which, .ref h_this_much, .int (v.2.2.1), .int v_sweptMany, .ref h_this_had, .int v_badAct, .int v_badWhy, .int v_sweptAct, .int v_sweptWhich, .ref h_this_rows, .ref h_this_groups, .ref h_this_covers, .ref h_this_byWool, .ref h_this_wins, .ref h_this_kept, .ref h_this_isKept, .int v_keptAt, .int v_isWriting])), (h_this_act, .inl (cI, 60, .inl (v.2.2.2.1))), (h_this_much, .inl (cI, 60, .inl (v.2.2.2.2.1))), (h_this_pad, .inl (cI, 60, .inl v_pad)), (h_this_which, .inl (cI, 60, .inl (v.2.2.2.2.2)))]) (lv := fun v => [(0, .ref h_this), (1, .int (v.1)), (2, .int (v.2.1))]) n0_1 ((0 : Int32), (0 : Int32), (0 : Int32), v_act, v_much, v_which) hi0_1 hP hD hS (lv_sub hl [2, 1, 0] rfl) ?_
  intro n_1 v_1 hi_1 ih_1 H locs hP hD hS ls hl
  obtain ⟨i_2, i_3, g_4, f_5, f_6, f_7⟩ := v_1
  replace vc := vc n_1 i_2 i_3 g_4 f_5 f_6 f_7 hi_1
  have hP : va_P D vwCl [(h_this, .inr (9, [.int v_present, .ref h_this_wool, .ref h_this_stitches, .ref h_this_place, .int v_chest, .int v_years, .ref h_this_sightSundays, .ref h_this_sightWool, .int v_sights, .ref h_this_pad, .int v_padMany, .ref h_this_act, .ref h_this_which, .ref h_this_much, .int g_4, .int v_sweptMany, .ref h_this_had, .int v_badAct, .int v_badWhy, .int v_sweptAct, .int v_sweptWhich, .ref h_this_rows, .ref h_this_groups, .ref h_this_covers, .ref h_this_byWool, .ref h_this_wins, .ref h_this_kept, .ref h_this_isKept, .int v_keptAt, .int v_isWriting])), (h_this_act, .inl (cI, 60, .inl f_5)), (h_this_much, .inl (cI, 60, .inl f_6)), (h_this_pad, .inl (cI, 60, .inl v_pad)), (h_this_which, .inl (cI, 60, .inl f_7))] H := hP
  have hD : va_D A [(h_this, .inr (9, [.int v_present, .ref h_this_wool, .ref h_this_stitches, .ref h_this_place, .int v_chest, .int v_years, .ref h_this_sightSundays, .ref h_this_sightWool, .int v_sights, .ref h_this_pad, .int v_padMany, .ref h_this_act, .ref h_this_which, .ref h_this_much, .int g_4, .int v_sweptMany, .ref h_this_had, .int v_badAct, .int v_badWhy, .int v_sweptAct, .int v_sweptWhich, .ref h_this_rows, .ref h_this_groups, .ref h_this_covers, .ref h_this_byWool, .ref h_this_wins, .ref h_this_kept, .ref h_this_isKept, .int v_keptAt, .int v_isWriting])), (h_this_act, .inl (cI, 60, .inl f_5)), (h_this_much, .inl (cI, 60, .inl f_6)), (h_this_pad, .inl (cI, 60, .inl v_pad)), (h_this_which, .inl (cI, 60, .inl f_7))] := hD
  have hl : lv_has ls 3 [(0, .ref h_this), (1, .int i_2), (2, .int i_3)] := hl
  refine lv_iload_n hx hb dX9_fault_9 rfl (lv_at hl 2 rfl) ?_
  refine lv_aload_n hx hb dX9_fault_10 rfl (lv_at hl 0 rfl) ?_
  refine va_get (D := D) (ci := 9) (v := .int v_padMany) (C := RX9) (T := TX9) (N := 30) hx hb hts mcX9_fault_X9 hown hK.1 hP 0 rfl rfl 10 (by decide) (hts _ mwX9_fault_2) (fun _ h9 => h9) rfl dX9_fault_11 ?_
  refine lv_icmp_ge (tgt := 41) hx hb dX9_fault_14 (by decide) (fun c_ => ?_) (fun c_ => ?_)
  · replace vc := vc.1 c_
    refine lv_iload_n hx hb dX9_fault_41 rfl (lv_at hl 1 rfl) ?_
    refine lv_if_ne (tgt := 50) hx hb dX9_fault_42 (by decide) (fun c_ => ?_) (fun c_ => ?_)
    · replace vc := vc.1 c_
      refine lv_aload_n hx hb dX9_fault_50 rfl (lv_at hl 0 rfl) ?_
      refine va_get (D := D) (ci := 9) (v := .int v_padMany) (C := RX9) (T := TX9) (N := 30) hx hb hts mcX9_fault_X9 hown hK.1 hP 0 rfl rfl 10 (by decide) (hts _ mwX9_fault_2) (fun _ h9 => h9) rfl dX9_fault_51 ?_
      exact W.iret (v := v_padMany) hx hb hr (fun t ht hW => ⟨⟨v_padMany, (g_4, f_5, f_6, f_7), rfl, vc, QB_mk (hP.sub [0, 1, 2, 3, 4] rfl) (hD.sub [0, 1, 2, 3, 4] rfl rfl) ht⟩, hS.F ht⟩) hS.2.2 dX9_fault_54
    · replace vc := vc.2 c_
      refine lv_bipush (v := (-6 : Int32)) hx hb dX9_fault_45 (by decide) ?_
      refine lv_goto (tgt := 54) hx hb dX9_fault_47 (by decide) ?_
      exact W.iret (v := (-6 : Int32)) hx hb hr (fun t ht hW => ⟨⟨(-6 : Int32), (g_4, f_5, f_6, f_7), rfl, vc, QB_mk (hP.sub [0, 1, 2, 3, 4] rfl) (hD.sub [0, 1, 2, 3, 4] rfl rfl) ht⟩, hS.F ht⟩) hS.2.2 dX9_fault_54
  · replace vc := vc.2 c_
    refine lv_aload_n hx hb dX9_fault_17 rfl (lv_at hl 0 rfl) ?_
    refine lv_iload_n hx hb dX9_fault_18 rfl (lv_at hl 1 rfl) ?_
    refine lv_aload_n hx hb dX9_fault_19 rfl (lv_at hl 0 rfl) ?_
    refine va_get (D := D) (ci := 9) (v := .ref h_this_pad) (C := RX9) (T := TX9) (N := 30) hx hb hts mcX9_fault_X9 hown hK.1 hP 0 rfl rfl 9 (by decide) (hts _ mwX9_fault_3) (fun _ h9 => h9) rfl dX9_fault_20 ?_
    refine lv_iload_n hx hb dX9_fault_23 rfl (lv_at hl 2 rfl) ?_
    have hi_8 := vc.1
    replace vc := vc.2
    refine va_iald hx hb hK.1 hP 3 0 rfl rfl hi_8 dX9_fault_24 ?_
    refine kj_i (wr := [(h_this_pad, .inl (cI, 60, .inl v_pad))]) (rest := []) (kV ⟨hx, hb, hml, hown, hts⟩ (kX9_readOn _ h_this h_this_wool h_this_stitches h_this_place h_this_sightSundays h_this_sightWool h_this_pad h_this_act h_this_which h_this_much h_this_had h_this_rows h_this_groups h_this_covers h_this_byWool h_this_wins h_this_kept h_this_isKept i_2 (v_pad (i_3).toNatClampNeg) v_present v_chest v_years v_sights v_padMany g_4 v_sweptMany v_badAct v_badWhy v_sweptAct v_sweptWhich v_keptAt v_isWriting f_5 f_6 f_7 vc.1) (cwV 2 hts gX9_fault_X9_readOn rfl rfl rfl (by decide +kernel) ⟨(Nat.le_of_ble_eq_true rfl), (Nat.le_of_ble_eq_true rfl)⟩) hK hP hD [0, 1, 2, 4] rfl rfl 0 9 rfl rfl rfl rfl rfl hl.1 (Nat.le_of_ble_eq_true rfl) dX9_fault_25 ⟨(Nat.le_of_ble_eq_true rfl), (Nat.le_of_ble_eq_true rfl)⟩) hP hD hS hA [0, 1, 2, 4] [3] rfl rfl rfl rfl (fun r_13 u_ H locs hq_ hP hD hS => ?_)
    obtain ⟨g_9, f_10, f_11, f_12⟩ := u_
    replace vc := vc.2 r_13 g_9 f_10 f_11 f_12 hq_
    have hP : va_P D vwCl [(h_this_pad, .inl (cI, 60, .inl v_pad)), (h_this, .inr (9, [.int v_present, .ref h_this_wool, .ref h_this_stitches, .ref h_this_place, .int v_chest, .int v_years, .ref h_this_sightSundays, .ref h_this_sightWool, .int v_sights, .ref h_this_pad, .int v_padMany, .ref h_this_act, .ref h_this_which, .ref h_this_much, .int g_9, .int v_sweptMany, .ref h_this_had, .int v_badAct, .int v_badWhy, .int v_sweptAct, .int v_sweptWhich, .ref h_this_rows, .ref h_this_groups, .ref h_this_covers, .ref h_this_byWool, .ref h_this_wins, .ref h_this_kept, .ref h_this_isKept, .int v_keptAt, .int v_isWriting])), (h_this_act, .inl (cI, 60, .inl f_10)), (h_this_much, .inl (cI, 60, .inl f_11)), (h_this_which, .inl (cI, 60, .inl f_12))] H := hP
    have hD : va_D A [(h_this_pad, .inl (cI, 60, .inl v_pad)), (h_this, .inr (9, [.int v_present, .ref h_this_wool, .ref h_this_stitches, .ref h_this_place, .int v_chest, .int v_years, .ref h_this_sightSundays, .ref h_this_sightWool, .int v_sights, .ref h_this_pad, .int v_padMany, .ref h_this_act, .ref h_this_which, .ref h_this_much, .int g_9, .int v_sweptMany, .ref h_this_had, .int v_badAct, .int v_badWhy, .int v_sweptAct, .int v_sweptWhich, .ref h_this_rows, .ref h_this_groups, .ref h_this_covers, .ref h_this_byWool, .ref h_this_wins, .ref h_this_kept, .ref h_this_isKept, .int v_keptAt, .int v_isWriting])), (h_this_act, .inl (cI, 60, .inl f_10)), (h_this_much, .inl (cI, 60, .inl f_11)), (h_this_which, .inl (cI, 60, .inl f_12))] := hD
    refine lv_istore_n (lv' := [(1, .int r_13), (0, .ref h_this), (2, .int i_3)]) hx hb dX9_fault_28 rfl hl (by decide) rfl (fun ls hl => ?_)
    refine lv_iload_n hx hb dX9_fault_29 rfl (lv_at hl 0 rfl) ?_
    refine lv_if_ge (tgt := 35) hx hb dX9_fault_30 (by decide) (fun c_ => ?_) (fun c_ => ?_)
    · replace vc := vc.1 c_
      obtain ⟨x_14, ex_14⟩ : ∃ y_ : Int32, y_ = (i_3 + (1 : Int32)) := ⟨_, rfl⟩
      replace vc := vc x_14 ex_14
      refine lv_iinc (v := x_14) (lv' := [(2, .int x_14), (1, .int r_13), (0, .ref h_this)]) hx hb dX9_fault_35 hl (k := 2) rfl (by rw [ex_14]; rfl) (by decide) rfl (fun ls hl => ?_)
      refine lv_goto (tgt := 9) hx hb dX9_fault_38 (by decide) ?_
      obtain ⟨n1_, hlt_, hi_⟩ := vc
      exact ih_1 n1_ (r_13, x_14, g_9, f_10, f_11, f_12) hlt_ hi_ _ _ (hP.sub [1, 2, 3, 0, 4] rfl) (hD.sub [1, 2, 3, 0, 4] rfl rfl) hS ls (lv_sub hl [2, 1, 0] rfl)
    · replace vc := vc.2 c_
      refine lv_iload_n hx hb dX9_fault_33 rfl (lv_at hl 2 rfl) ?_
      exact W.iret (v := i_3) hx hb hr (fun t ht hW => ⟨⟨i_3, (g_9, f_10, f_11, f_12), rfl, vc, QB_mk (hP.sub [1, 2, 3, 0, 4] rfl) (hD.sub [1, 2, 3, 0, 4] rfl rfl) ht⟩, hS.F ht⟩) hS.2.2 dX9_fault_34

theorem mwX9_whyNot_1 : Cond.fieldLink RX9 135 "HassockSeeModel" "years" "I" ∈ wsX9_whyNot := List.mem_of_getElem? (i := 1) rfl
theorem mwX9_whyNot_2 : Cond.fieldLink RX9 62 "HassockSeeModel" "present" "I" ∈ wsX9_whyNot := List.mem_of_getElem? (i := 2) rfl
theorem mwX9_whyNot_3 : Cond.fieldLink RX9 66 "HassockSeeModel" "chest" "I" ∈ wsX9_whyNot := List.mem_of_getElem? (i := 3) rfl
theorem mwX9_whyNot_4 : Cond.fieldLink RX9 7 "HassockSeeModel" "wool" "[I" ∈ wsX9_whyNot := List.mem_of_getElem? (i := 4) rfl
theorem mcX9_whyNot_X9 : ∀ w ∈ u_ws RX9 TX9 30, w ∈ wsX9_whyNot := fun _ h => (List.mem_cons_of_mem _ (List.mem_append_right _ h))
def KX9_whyNot (l : Launch) (D : va_G) (cI cZ : ClassId) (P : Int32 → Int32 → Int32 → Int32 → Int32 → Int32 → (Nat → Int32) → Prop) (Q : Int32 → Int32 → Int32 → Int32 → Int32 → Int32 → (Nat → Int32) → Int32 → Prop) : Prop := ∀ (sz : Nat) (h_this h_this_wool h_this_stitches h_this_place h_this_sightSundays h_this_sightWool h_this_pad h_this_act h_this_which h_this_much h_this_had h_this_rows h_this_groups h_this_covers h_this_byWool h_this_wins h_this_kept h_this_isKept : Nat) (p0 : Int32) (p1 : Int32) (p2 : Int32) (v_present : Int32) (v_chest : Int32) (v_years : Int32) (v_sights : Int32) (v_padMany : Int32) (v_acts : Int32) (v_sweptMany : Int32) (v_badAct : Int32) (v_badWhy : Int32) (v_sweptAct : Int32) (v_sweptWhich : Int32) (v_keptAt : Int32) (v_isWriting : Int32) (v_wool : (Nat → Int32)), P p0 p1 p2 v_present v_chest v_years v_wool → MI l yX9_whyNot wsX9_whyNot ({ frames := 1, cells := 0, slots := 0, locals := 21 }) [.ref h_this, .int p0, .int p1, .int p2] D cI cZ sz [(h_this, .inr (9, [.int v_present, .ref h_this_wool, .ref h_this_stitches, .ref h_this_place, .int v_chest, .int v_years, .ref h_this_sightSundays, .ref h_this_sightWool, .int v_sights, .ref h_this_pad, .int v_padMany, .ref h_this_act, .ref h_this_which, .ref h_this_much, .int v_acts, .int v_sweptMany, .ref h_this_had, .int v_badAct, .int v_badWhy, .int v_sweptAct, .int v_sweptWhich, .ref h_this_rows, .ref h_this_groups, .ref h_this_covers, .ref h_this_byWool, .ref h_this_wins, .ref h_this_kept, .ref h_this_isKept, .int v_keptAt, .int v_isWriting])), (h_this_wool, .inl (cI, 10, .inl v_wool))] (fun r (u : Unit) => Q p0 p1 p2 v_present v_chest v_years v_wool r ) (fun u => [(h_this, .inr (9, [.int v_present, .ref h_this_wool, .ref h_this_stitches, .ref h_this_place, .int v_chest, .int v_years, .ref h_this_sightSundays, .ref h_this_sightWool, .int v_sights, .ref h_this_pad, .int v_padMany, .ref h_this_act, .ref h_this_which, .ref h_this_much, .int v_acts, .int v_sweptMany, .ref h_this_had, .int v_badAct, .int v_badWhy, .int v_sweptAct, .int v_sweptWhich, .ref h_this_rows, .ref h_this_groups, .ref h_this_covers, .ref h_this_byWool, .ref h_this_wins, .ref h_this_kept, .ref h_this_isKept, .int v_keptAt, .int v_isWriting])), (h_this_wool, .inl (cI, 10, .inl v_wool))]) 0 0
set_option maxHeartbeats 4000000 in
set_option maxRecDepth 100000 in
theorem walkX9_whyNot {l : Launch} {D : va_G} {cI cZ : ClassId} {PX9_whyNot : Int32 → Int32 → Int32 → Int32 → Int32 → Int32 → (Nat → Int32) → Prop} {QX9_whyNot : Int32 → Int32 → Int32 → Int32 → Int32 → Int32 → (Nat → Int32) → Int32 → Prop} {PX9_has : Int32 → Int32 → Prop} {QX9_has : Int32 → Int32 → Int32 → Prop} (kX9_has : KX9_has l D cI cZ PX9_has QX9_has) (hvc : ∀ (p0 : Int32) (p1 : Int32) (p2 : Int32) (v_present : Int32) (v_chest : Int32) (v_years : Int32) (v_wool : (Nat → Int32)), PX9_whyNot p0 p1 p2 v_present v_chest v_years v_wool → ((¬ p0 = (6 : Int32) → ((p0 = (3 : Int32) → (PX9_has v_present p1 ∧ (∀ r_1 : Int32, QX9_has v_present p1 r_1 → ((r_1 = 0 → (QX9_whyNot p0 p1 p2 v_present v_chest v_years v_wool (1 : Int32) )) ∧ (¬ r_1 = 0 → (PX9_has v_present p2 ∧ (∀ r_2 : Int32, QX9_has v_present p2 r_2 → ((¬ r_2 = 0 → ((p0 = (1 : Int32) → (((5 : Int32) ≤ v_chest → (vp_in p1 10 ∧ ((¬ (v_wool (p1).toNatClampNeg) = (99 : Int32) → (QX9_whyNot p0 p1 p2 v_present v_chest v_years v_wool (0 : Int32) )) ∧ ((v_wool (p1).toNatClampNeg) = (99 : Int32) → (QX9_whyNot p0 p1 p2 v_present v_chest v_years v_wool (3 : Int32) ))))) ∧ (¬ (5 : Int32) ≤ v_chest → (QX9_whyNot p0 p1 p2 v_present v_chest v_years v_wool (2 : Int32) )))) ∧ (¬ p0 = (1 : Int32) → ((p0 = (5 : Int32) → ((¬ v_present = ((1 : Int32) <<< (p1 &&& 31)) → (QX9_whyNot p0 p1 p2 v_present v_chest v_years v_wool (0 : Int32) )) ∧ (v_present = ((1 : Int32) <<< (p1 &&& 31)) → (QX9_whyNot p0 p1 p2 v_present v_chest v_years v_wool (5 : Int32) )))) ∧ (¬ p0 = (5 : Int32) → ((¬ p1 = p2 → (QX9_whyNot p0 p1 p2 v_present v_chest v_years v_wool (0 : Int32) )) ∧ (p1 = p2 → (QX9_whyNot p0 p1 p2 v_present v_chest v_years v_wool (4 : Int32) )))))))) ∧ (r_2 = 0 → (QX9_whyNot p0 p1 p2 v_present v_chest v_years v_wool (1 : Int32) )))))))))) ∧ (¬ p0 = (3 : Int32) → ((¬ p0 = (4 : Int32) → (PX9_has v_present p1 ∧ (∀ r_4 : Int32, QX9_has v_present p1 r_4 → ((r_4 = 0 → (QX9_whyNot p0 p1 p2 v_present v_chest v_years v_wool (1 : Int32) )) ∧ (¬ r_4 = 0 → ((p0 = (1 : Int32) → (((5 : Int32) ≤ v_chest → (vp_in p1 10 ∧ ((¬ (v_wool (p1).toNatClampNeg) = (99 : Int32) → (QX9_whyNot p0 p1 p2 v_present v_chest v_years v_wool (0 : Int32) )) ∧ ((v_wool (p1).toNatClampNeg) = (99 : Int32) → (QX9_whyNot p0 p1 p2 v_present v_chest v_years v_wool (3 : Int32) ))))) ∧ (¬ (5 : Int32) ≤ v_chest → (QX9_whyNot p0 p1 p2 v_present v_chest v_years v_wool (2 : Int32) )))) ∧ (¬ p0 = (1 : Int32) → ((p0 = (5 : Int32) → ((¬ v_present = ((1 : Int32) <<< (p1 &&& 31)) → (QX9_whyNot p0 p1 p2 v_present v_chest v_years v_wool (0 : Int32) )) ∧ (v_present = ((1 : Int32) <<< (p1 &&& 31)) → (QX9_whyNot p0 p1 p2 v_present v_chest v_years v_wool (5 : Int32) )))) ∧ (¬ p0 = (5 : Int32) → (QX9_whyNot p0 p1 p2 v_present v_chest v_years v_wool (0 : Int32) )))))))))) ∧ (p0 = (4 : Int32) → (PX9_has v_present p1 ∧ (∀ r_6 : Int32, QX9_has v_present p1 r_6 → ((r_6 = 0 → (QX9_whyNot p0 p1 p2 v_present v_chest v_years v_wool (1 : Int32) )) ∧ (¬ r_6 = 0 → (PX9_has v_present p2 ∧ (∀ r_7 : Int32, QX9_has v_present p2 r_7 → ((¬ r_7 = 0 → ((p0 = (1 : Int32) → (((5 : Int32) ≤ v_chest → (vp_in p1 10 ∧ ((¬ (v_wool (p1).toNatClampNeg) = (99 : Int32) → (QX9_whyNot p0 p1 p2 v_present v_chest v_years v_wool (0 : Int32) )) ∧ ((v_wool (p1).toNatClampNeg) = (99 : Int32) → (QX9_whyNot p0 p1 p2 v_present v_chest v_years v_wool (3 : Int32) ))))) ∧ (¬ (5 : Int32) ≤ v_chest → (QX9_whyNot p0 p1 p2 v_present v_chest v_years v_wool (2 : Int32) )))) ∧ (¬ p0 = (1 : Int32) → ((p0 = (5 : Int32) → ((¬ v_present = ((1 : Int32) <<< (p1 &&& 31)) → (QX9_whyNot p0 p1 p2 v_present v_chest v_years v_wool (0 : Int32) )) ∧ (v_present = ((1 : Int32) <<< (p1 &&& 31)) → (QX9_whyNot p0 p1 p2 v_present v_chest v_years v_wool (5 : Int32) )))) ∧ (¬ p0 = (5 : Int32) → ((¬ p1 = p2 → (QX9_whyNot p0 p1 p2 v_present v_chest v_years v_wool (0 : Int32) )) ∧ (p1 = p2 → (QX9_whyNot p0 p1 p2 v_present v_chest v_years v_wool (4 : Int32) )))))))) ∧ (r_7 = 0 → (QX9_whyNot p0 p1 p2 v_present v_chest v_years v_wool (1 : Int32) )))))))))))))) ∧ (p0 = (6 : Int32) → ((¬ v_years = (99 : Int32) → (QX9_whyNot p0 p1 p2 v_present v_chest v_years v_wool (0 : Int32) )) ∧ (v_years = (99 : Int32) → (QX9_whyNot p0 p1 p2 v_present v_chest v_years v_wool (6 : Int32) )))))) : KX9_whyNot l D cI cZ PX9_whyNot QX9_whyNot := by
  intro sz h_this h_this_wool h_this_stitches h_this_place h_this_sightSundays h_this_sightWool h_this_pad h_this_act h_this_which h_this_much h_this_had h_this_rows h_this_groups h_this_covers h_this_byWool h_this_wins h_this_kept h_this_isKept p0 p1 p2 v_present v_chest v_years v_sights v_padMany v_acts v_sweptMany v_badAct v_badWhy v_sweptAct v_sweptWhich v_keptAt v_isWriting v_wool hpre
  have vc := hvc p0 p1 p2 v_present v_chest v_years v_wool hpre
  clear hvc
  refine Met.ofW (cc := cX9_whyNot) (maxL := 5) (ret := (some .int)) (by decide) rfl ?_
  intro p e s m args below meth c s₁ B hml hv
  obtain ⟨rfl, hsz, hP, hK, hD0⟩ := hv
  have hx := B.exec
  have hb := B.bytes
  have hr := B.returns
  have hts := atoms_spec (ws := wsX9_whyNot) B.pre
  have hown : s.vm.findClass RX9 = some m.cls := findClass_of_methodNamed B.named
  have hlocks := B.notSynchronized
  subst hsz
  have hD := hD0.self (sz := s.heap.size)
  generalize hAe : va_A [(h_this, .inr (9, [.int v_present, .ref h_this_wool, .ref h_this_stitches, .ref h_this_place, .int v_chest, .int v_years, .ref h_this_sightSundays, .ref h_this_sightWool, .int v_sights, .ref h_this_pad, .int v_padMany, .ref h_this_act, .ref h_this_which, .ref h_this_much, .int v_acts, .int v_sweptMany, .ref h_this_had, .int v_badAct, .int v_badWhy, .int v_sweptAct, .int v_sweptWhich, .ref h_this_rows, .ref h_this_groups, .ref h_this_covers, .ref h_this_byWool, .ref h_this_wins, .ref h_this_kept, .ref h_this_isKept, .int v_keptAt, .int v_isWriting])), (h_this_wool, .inl (cI, 10, .inl v_wool))] s.heap.size = A at hD ⊢
  have hA : ∀ q : Nat, s.heap.size ≤ q → A q := fun q h => by rw [← hAe]; exact Or.inr h
  have hS : va_S A s.heap s.heap [] := va_S.rf
  have hP : va_P D vwCl [(h_this, .inr (9, [.int v_present, .ref h_this_wool, .ref h_this_stitches, .ref h_this_place, .int v_chest, .int v_years, .ref h_this_sightSundays, .ref h_this_sightWool, .int v_sights, .ref h_this_pad, .int v_padMany, .ref h_this_act, .ref h_this_which, .ref h_this_much, .int v_acts, .int v_sweptMany, .ref h_this_had, .int v_badAct, .int v_badWhy, .int v_sweptAct, .int v_sweptWhich, .ref h_this_rows, .ref h_this_groups, .ref h_this_covers, .ref h_this_byWool, .ref h_this_wins, .ref h_this_kept, .ref h_this_isKept, .int v_keptAt, .int v_isWriting])), (h_this_wool, .inl (cI, 10, .inl v_wool))] s.heap := hP
  have hl := lv_entry ([.ref h_this, .int p0, .int p1, .int p2]) (n := 5) (Nat.le_of_ble_eq_true rfl)
  rw [lg_entry_eq]
  generalize (lg_sl ([.ref h_this, .int p0, .int p1, .int p2]) ++ List.replicate (5 - (lg_sl ([.ref h_this, .int p0, .int p1, .int p2])).length) Slot.unset).toArray = ls at hl ⊢
  have hl : lv_has ls 5 [(0, .ref h_this), (1, .int p0), (2, .int p1), (3, .int p2)] := hl
  refine lv_iload_n hx hb dX9_whyNot_0 rfl (lv_at hl 1 rfl) ?_
  refine lv_bipush (v := (6 : Int32)) hx hb dX9_whyNot_1 (by decide) ?_
  refine lv_icmp_ne (tgt := 22) hx hb dX9_whyNot_3 (by decide) (fun c_ => ?_) (fun c_ => ?_)
  · replace vc := vc.1 c_
    refine lv_iload_n hx hb dX9_whyNot_22 rfl (lv_at hl 1 rfl) ?_
    refine lv_iconst (v := (3 : Int32)) hx hb dX9_whyNot_23 (by decide) ?_
    refine lv_icmp_eq (tgt := 32) hx hb dX9_whyNot_24 (by decide) (fun c_ => ?_) (fun c_ => ?_)
    · replace vc := vc.1 c_
      refine lv_iconst (v := (1 : Int32)) hx hb dX9_whyNot_32 (by decide) ?_
      refine lv_goto (tgt := 37) hx hb dX9_whyNot_33 (by decide) ?_
      refine lv_istore (lv' := [(4, .int (1 : Int32)), (0, .ref h_this), (1, .int p0), (2, .int p1), (3, .int p2)]) hx hb dX9_whyNot_37 hl (by decide) rfl (fun ls hl => ?_)
      refine lv_aload_n hx hb dX9_whyNot_39 rfl (lv_at hl 1 rfl) ?_
      refine va_get (D := D) (ci := 9) (v := .int v_present) (C := RX9) (T := TX9) (N := 30) hx hb hts mcX9_whyNot_X9 hown hK.1 hP 0 rfl rfl 0 (by decide) (hts _ mwX9_whyNot_2) (fun _ h9 => h9) rfl dX9_whyNot_40 ?_
      refine lv_iload_n hx hb dX9_whyNot_43 rfl (lv_at hl 3 rfl) ?_
      refine kj0_i (rest := []) (kS ⟨hx, hb, hml, hown, hts⟩ (kX9_has _ v_present p1 vc.1) (va_cwS 2 hts gX9_whyNot_X9_has rfl rfl rfl (by decide +kernel) ⟨(Nat.le_of_ble_eq_true rfl), (Nat.le_of_ble_eq_true rfl)⟩) hK rfl rfl hl.1 (Nat.le_of_ble_eq_true rfl) dX9_whyNot_44 ⟨(Nat.le_of_ble_eq_true rfl), (Nat.le_of_ble_eq_true rfl)⟩) hP hS hA (fun r_1 H locs hq_ hP hS => ?_)
      replace vc := vc.2 r_1 hq_
      have hP : va_P D vwCl [(h_this, .inr (9, [.int v_present, .ref h_this_wool, .ref h_this_stitches, .ref h_this_place, .int v_chest, .int v_years, .ref h_this_sightSundays, .ref h_this_sightWool, .int v_sights, .ref h_this_pad, .int v_padMany, .ref h_this_act, .ref h_this_which, .ref h_this_much, .int v_acts, .int v_sweptMany, .ref h_this_had, .int v_badAct, .int v_badWhy, .int v_sweptAct, .int v_sweptWhich, .ref h_this_rows, .ref h_this_groups, .ref h_this_covers, .ref h_this_byWool, .ref h_this_wins, .ref h_this_kept, .ref h_this_isKept, .int v_keptAt, .int v_isWriting])), (h_this_wool, .inl (cI, 10, .inl v_wool))] H := hP
      refine lv_if_eq (tgt := 66) hx hb dX9_whyNot_47 (by decide) (fun c_ => ?_) (fun c_ => ?_)
      · replace vc := vc.1 c_
        refine lv_iconst (v := (1 : Int32)) hx hb dX9_whyNot_66 (by decide) ?_
        exact W.iret (v := (1 : Int32)) hx hb hr (fun t ht hW => ⟨⟨(1 : Int32), (), rfl, vc, QB_mk (hP.sub [0, 1] rfl) (hD.sub [0, 1] rfl rfl) ht⟩, hS.F ht⟩) hS.2.2 dX9_whyNot_67
      · replace vc := vc.2 c_
        refine lv_iload hx hb dX9_whyNot_50 (lv_at hl 0 rfl) ?_
        refine lv_if_eq (tgt := 68) hx hb dX9_whyNot_52 (by decide) (fun c_ => absurd c_ (by decide)) (fun _ => ?_)
        refine lv_aload_n hx hb dX9_whyNot_55 rfl (lv_at hl 1 rfl) ?_
        refine va_get (D := D) (ci := 9) (v := .int v_present) (C := RX9) (T := TX9) (N := 30) hx hb hts mcX9_whyNot_X9 hown hK.1 hP 0 rfl rfl 0 (by decide) (hts _ mwX9_whyNot_2) (fun _ h9 => h9) rfl dX9_whyNot_56 ?_
        refine lv_iload_n hx hb dX9_whyNot_59 rfl (lv_at hl 4 rfl) ?_
        refine kj0_i (rest := []) (kS ⟨hx, hb, hml, hown, hts⟩ (kX9_has _ v_present p2 vc.1) (va_cwS 2 hts gX9_whyNot_X9_has rfl rfl rfl (by decide +kernel) ⟨(Nat.le_of_ble_eq_true rfl), (Nat.le_of_ble_eq_true rfl)⟩) hK rfl rfl hl.1 (Nat.le_of_ble_eq_true rfl) dX9_whyNot_60 ⟨(Nat.le_of_ble_eq_true rfl), (Nat.le_of_ble_eq_true rfl)⟩) hP hS hA (fun r_2 H locs hq_ hP hS => ?_)
        replace vc := vc.2 r_2 hq_
        have hP : va_P D vwCl [(h_this, .inr (9, [.int v_present, .ref h_this_wool, .ref h_this_stitches, .ref h_this_place, .int v_chest, .int v_years, .ref h_this_sightSundays, .ref h_this_sightWool, .int v_sights, .ref h_this_pad, .int v_padMany, .ref h_this_act, .ref h_this_which, .ref h_this_much, .int v_acts, .int v_sweptMany, .ref h_this_had, .int v_badAct, .int v_badWhy, .int v_sweptAct, .int v_sweptWhich, .ref h_this_rows, .ref h_this_groups, .ref h_this_covers, .ref h_this_byWool, .ref h_this_wins, .ref h_this_kept, .ref h_this_isKept, .int v_keptAt, .int v_isWriting])), (h_this_wool, .inl (cI, 10, .inl v_wool))] H := hP
        refine lv_if_ne (tgt := 68) hx hb dX9_whyNot_63 (by decide) (fun c_ => ?_) (fun c_ => ?_)
        · replace vc := vc.1 c_
          refine lv_iload_n hx hb dX9_whyNot_68 rfl (lv_at hl 2 rfl) ?_
          by_cases c1_0 : p0 = (1 : Int32)
          · replace vc := vc.1 c1_0
            refine lv_lookup (off := 27) (tgt := 96) hx hb dX9_whyNot_69 (by decide) (by rw [c1_0]; decide) (by decide) ?_
            refine lv_aload_n hx hb dX9_whyNot_96 rfl (lv_at hl 1 rfl) ?_
            refine va_get (D := D) (ci := 9) (v := .int v_chest) (C := RX9) (T := TX9) (N := 30) hx hb hts mcX9_whyNot_X9 hown hK.1 hP 0 rfl rfl 4 (by decide) (hts _ mwX9_whyNot_3) (fun _ h9 => h9) rfl dX9_whyNot_97 ?_
            refine lv_iconst (v := (5 : Int32)) hx hb dX9_whyNot_100 (by decide) ?_
            refine lv_icmp_ge (tgt := 108) hx hb dX9_whyNot_101 (by decide) (fun c_ => ?_) (fun c_ => ?_)
            · replace vc := vc.1 c_
              refine lv_aload_n hx hb dX9_whyNot_108 rfl (lv_at hl 1 rfl) ?_
              refine va_get (D := D) (ci := 9) (v := .ref h_this_wool) (C := RX9) (T := TX9) (N := 30) hx hb hts mcX9_whyNot_X9 hown hK.1 hP 0 rfl rfl 1 (by decide) (hts _ mwX9_whyNot_4) (fun _ h9 => h9) rfl dX9_whyNot_109 ?_
              refine lv_iload_n hx hb dX9_whyNot_112 rfl (lv_at hl 3 rfl) ?_
              have hi_3 := vc.1
              replace vc := vc.2
              refine va_iald hx hb hK.1 hP 1 0 rfl rfl hi_3 dX9_whyNot_113 ?_
              refine lv_bipush (v := (99 : Int32)) hx hb dX9_whyNot_114 (by decide) ?_
              refine lv_icmp_ne (tgt := 123) hx hb dX9_whyNot_116 (by decide) (fun c_ => ?_) (fun c_ => ?_)
              · replace vc := vc.1 c_
                refine lv_iconst (v := (0 : Int32)) hx hb dX9_whyNot_123 (by decide) ?_
                exact W.iret (v := (0 : Int32)) hx hb hr (fun t ht hW => ⟨⟨(0 : Int32), (), rfl, vc, QB_mk (hP.sub [0, 1] rfl) (hD.sub [0, 1] rfl rfl) ht⟩, hS.F ht⟩) hS.2.2 dX9_whyNot_124
              · replace vc := vc.2 c_
                refine lv_iconst (v := (3 : Int32)) hx hb dX9_whyNot_119 (by decide) ?_
                refine lv_goto (tgt := 124) hx hb dX9_whyNot_120 (by decide) ?_
                exact W.iret (v := (3 : Int32)) hx hb hr (fun t ht hW => ⟨⟨(3 : Int32), (), rfl, vc, QB_mk (hP.sub [0, 1] rfl) (hD.sub [0, 1] rfl rfl) ht⟩, hS.F ht⟩) hS.2.2 dX9_whyNot_124
            · replace vc := vc.2 c_
              refine lv_iconst (v := (2 : Int32)) hx hb dX9_whyNot_104 (by decide) ?_
              refine lv_goto (tgt := 124) hx hb dX9_whyNot_105 (by decide) ?_
              exact W.iret (v := (2 : Int32)) hx hb hr (fun t ht hW => ⟨⟨(2 : Int32), (), rfl, vc, QB_mk (hP.sub [0, 1] rfl) (hD.sub [0, 1] rfl rfl) ht⟩, hS.F ht⟩) hS.2.2 dX9_whyNot_124
          · replace vc := vc.2 c1_0
            by_cases c1_1 : p0 = (5 : Int32)
            · replace vc := vc.1 c1_1
              refine lv_lookup (off := 56) (tgt := 125) hx hb dX9_whyNot_69 (by decide) (by rw [c1_1]; decide) (by decide) ?_
              refine lv_aload_n hx hb dX9_whyNot_125 rfl (lv_at hl 1 rfl) ?_
              refine va_get (D := D) (ci := 9) (v := .int v_present) (C := RX9) (T := TX9) (N := 30) hx hb hts mcX9_whyNot_X9 hown hK.1 hP 0 rfl rfl 0 (by decide) (hts _ mwX9_whyNot_2) (fun _ h9 => h9) rfl dX9_whyNot_126 ?_
              refine lv_iconst (v := (1 : Int32)) hx hb dX9_whyNot_129 (by decide) ?_
              refine lv_iload_n hx hb dX9_whyNot_130 rfl (lv_at hl 3 rfl) ?_
              refine lv_ishl hx hb dX9_whyNot_131 ?_
              refine lv_icmp_ne (tgt := 139) hx hb dX9_whyNot_132 (by decide) (fun c_ => ?_) (fun c_ => ?_)
              · replace vc := vc.1 c_
                refine lv_iconst (v := (0 : Int32)) hx hb dX9_whyNot_139 (by decide) ?_
                exact W.iret (v := (0 : Int32)) hx hb hr (fun t ht hW => ⟨⟨(0 : Int32), (), rfl, vc, QB_mk (hP.sub [0, 1] rfl) (hD.sub [0, 1] rfl rfl) ht⟩, hS.F ht⟩) hS.2.2 dX9_whyNot_140
              · replace vc := vc.2 c_
                refine lv_iconst (v := (5 : Int32)) hx hb dX9_whyNot_135 (by decide) ?_
                refine lv_goto (tgt := 140) hx hb dX9_whyNot_136 (by decide) ?_
                exact W.iret (v := (5 : Int32)) hx hb hr (fun t ht hW => ⟨⟨(5 : Int32), (), rfl, vc, QB_mk (hP.sub [0, 1] rfl) (hD.sub [0, 1] rfl rfl) ht⟩, hS.F ht⟩) hS.2.2 dX9_whyNot_140
            · replace vc := vc.2 c1_1
              refine lv_lookup (off := 72) (tgt := 141) hx hb dX9_whyNot_69 (by decide) (by show Op.lookupswitch.offset [(1, 27), (5, 56)] _ _ = _; rw [lv_osw c1_0 (by decide), lv_osw c1_1 (by decide)]; rfl) (by decide) ?_
              refine lv_iload hx hb dX9_whyNot_141 (lv_at hl 0 rfl) ?_
              refine lv_if_eq (tgt := 155) hx hb dX9_whyNot_143 (by decide) (fun c_ => absurd c_ (by decide)) (fun _ => ?_)
              refine lv_iload_n hx hb dX9_whyNot_146 rfl (lv_at hl 3 rfl) ?_
              refine lv_iload_n hx hb dX9_whyNot_147 rfl (lv_at hl 4 rfl) ?_
              refine lv_icmp_ne (tgt := 155) hx hb dX9_whyNot_148 (by decide) (fun c_ => ?_) (fun c_ => ?_)
              · replace vc := vc.1 c_
                refine lv_iconst (v := (0 : Int32)) hx hb dX9_whyNot_155 (by decide) ?_
                exact W.iret (v := (0 : Int32)) hx hb hr (fun t ht hW => ⟨⟨(0 : Int32), (), rfl, vc, QB_mk (hP.sub [0, 1] rfl) (hD.sub [0, 1] rfl rfl) ht⟩, hS.F ht⟩) hS.2.2 dX9_whyNot_156
              · replace vc := vc.2 c_
                refine lv_iconst (v := (4 : Int32)) hx hb dX9_whyNot_151 (by decide) ?_
                refine lv_goto (tgt := 156) hx hb dX9_whyNot_152 (by decide) ?_
                exact W.iret (v := (4 : Int32)) hx hb hr (fun t ht hW => ⟨⟨(4 : Int32), (), rfl, vc, QB_mk (hP.sub [0, 1] rfl) (hD.sub [0, 1] rfl rfl) ht⟩, hS.F ht⟩) hS.2.2 dX9_whyNot_156
        · replace vc := vc.2 c_
          refine lv_iconst (v := (1 : Int32)) hx hb dX9_whyNot_66 (by decide) ?_
          exact W.iret (v := (1 : Int32)) hx hb hr (fun t ht hW => ⟨⟨(1 : Int32), (), rfl, vc, QB_mk (hP.sub [0, 1] rfl) (hD.sub [0, 1] rfl rfl) ht⟩, hS.F ht⟩) hS.2.2 dX9_whyNot_67
    · replace vc := vc.2 c_
      refine lv_iload_n hx hb dX9_whyNot_27 rfl (lv_at hl 1 rfl) ?_
      refine lv_iconst (v := (4 : Int32)) hx hb dX9_whyNot_28 (by decide) ?_
      refine lv_icmp_ne (tgt := 36) hx hb dX9_whyNot_29 (by decide) (fun c_ => ?_) (fun c_ => ?_)
      · replace vc := vc.1 c_
        refine lv_iconst (v := (0 : Int32)) hx hb dX9_whyNot_36 (by decide) ?_
        refine lv_istore (lv' := [(4, .int (0 : Int32)), (0, .ref h_this), (1, .int p0), (2, .int p1), (3, .int p2)]) hx hb dX9_whyNot_37 hl (by decide) rfl (fun ls hl => ?_)
        refine lv_aload_n hx hb dX9_whyNot_39 rfl (lv_at hl 1 rfl) ?_
        refine va_get (D := D) (ci := 9) (v := .int v_present) (C := RX9) (T := TX9) (N := 30) hx hb hts mcX9_whyNot_X9 hown hK.1 hP 0 rfl rfl 0 (by decide) (hts _ mwX9_whyNot_2) (fun _ h9 => h9) rfl dX9_whyNot_40 ?_
        refine lv_iload_n hx hb dX9_whyNot_43 rfl (lv_at hl 3 rfl) ?_
        refine kj0_i (rest := []) (kS ⟨hx, hb, hml, hown, hts⟩ (kX9_has _ v_present p1 vc.1) (va_cwS 2 hts gX9_whyNot_X9_has rfl rfl rfl (by decide +kernel) ⟨(Nat.le_of_ble_eq_true rfl), (Nat.le_of_ble_eq_true rfl)⟩) hK rfl rfl hl.1 (Nat.le_of_ble_eq_true rfl) dX9_whyNot_44 ⟨(Nat.le_of_ble_eq_true rfl), (Nat.le_of_ble_eq_true rfl)⟩) hP hS hA (fun r_4 H locs hq_ hP hS => ?_)
        replace vc := vc.2 r_4 hq_
        have hP : va_P D vwCl [(h_this, .inr (9, [.int v_present, .ref h_this_wool, .ref h_this_stitches, .ref h_this_place, .int v_chest, .int v_years, .ref h_this_sightSundays, .ref h_this_sightWool, .int v_sights, .ref h_this_pad, .int v_padMany, .ref h_this_act, .ref h_this_which, .ref h_this_much, .int v_acts, .int v_sweptMany, .ref h_this_had, .int v_badAct, .int v_badWhy, .int v_sweptAct, .int v_sweptWhich, .ref h_this_rows, .ref h_this_groups, .ref h_this_covers, .ref h_this_byWool, .ref h_this_wins, .ref h_this_kept, .ref h_this_isKept, .int v_keptAt, .int v_isWriting])), (h_this_wool, .inl (cI, 10, .inl v_wool))] H := hP
        refine lv_if_eq (tgt := 66) hx hb dX9_whyNot_47 (by decide) (fun c_ => ?_) (fun c_ => ?_)
        · replace vc := vc.1 c_
          refine lv_iconst (v := (1 : Int32)) hx hb dX9_whyNot_66 (by decide) ?_
          exact W.iret (v := (1 : Int32)) hx hb hr (fun t ht hW => ⟨⟨(1 : Int32), (), rfl, vc, QB_mk (hP.sub [0, 1] rfl) (hD.sub [0, 1] rfl rfl) ht⟩, hS.F ht⟩) hS.2.2 dX9_whyNot_67
        · replace vc := vc.2 c_
          refine lv_iload hx hb dX9_whyNot_50 (lv_at hl 0 rfl) ?_
          refine lv_if_eq (tgt := 68) hx hb dX9_whyNot_52 (by decide) (fun _ => ?_) (fun c_ => absurd c_ (by decide))
          refine lv_iload_n hx hb dX9_whyNot_68 rfl (lv_at hl 2 rfl) ?_
          by_cases c2_0 : p0 = (1 : Int32)
          · replace vc := vc.1 c2_0
            refine lv_lookup (off := 27) (tgt := 96) hx hb dX9_whyNot_69 (by decide) (by rw [c2_0]; decide) (by decide) ?_
            refine lv_aload_n hx hb dX9_whyNot_96 rfl (lv_at hl 1 rfl) ?_
            refine va_get (D := D) (ci := 9) (v := .int v_chest) (C := RX9) (T := TX9) (N := 30) hx hb hts mcX9_whyNot_X9 hown hK.1 hP 0 rfl rfl 4 (by decide) (hts _ mwX9_whyNot_3) (fun _ h9 => h9) rfl dX9_whyNot_97 ?_
            refine lv_iconst (v := (5 : Int32)) hx hb dX9_whyNot_100 (by decide) ?_
            refine lv_icmp_ge (tgt := 108) hx hb dX9_whyNot_101 (by decide) (fun c_ => ?_) (fun c_ => ?_)
            · replace vc := vc.1 c_
              refine lv_aload_n hx hb dX9_whyNot_108 rfl (lv_at hl 1 rfl) ?_
              refine va_get (D := D) (ci := 9) (v := .ref h_this_wool) (C := RX9) (T := TX9) (N := 30) hx hb hts mcX9_whyNot_X9 hown hK.1 hP 0 rfl rfl 1 (by decide) (hts _ mwX9_whyNot_4) (fun _ h9 => h9) rfl dX9_whyNot_109 ?_
              refine lv_iload_n hx hb dX9_whyNot_112 rfl (lv_at hl 3 rfl) ?_
              have hi_5 := vc.1
              replace vc := vc.2
              refine va_iald hx hb hK.1 hP 1 0 rfl rfl hi_5 dX9_whyNot_113 ?_
              refine lv_bipush (v := (99 : Int32)) hx hb dX9_whyNot_114 (by decide) ?_
              refine lv_icmp_ne (tgt := 123) hx hb dX9_whyNot_116 (by decide) (fun c_ => ?_) (fun c_ => ?_)
              · replace vc := vc.1 c_
                refine lv_iconst (v := (0 : Int32)) hx hb dX9_whyNot_123 (by decide) ?_
                exact W.iret (v := (0 : Int32)) hx hb hr (fun t ht hW => ⟨⟨(0 : Int32), (), rfl, vc, QB_mk (hP.sub [0, 1] rfl) (hD.sub [0, 1] rfl rfl) ht⟩, hS.F ht⟩) hS.2.2 dX9_whyNot_124
              · replace vc := vc.2 c_
                refine lv_iconst (v := (3 : Int32)) hx hb dX9_whyNot_119 (by decide) ?_
                refine lv_goto (tgt := 124) hx hb dX9_whyNot_120 (by decide) ?_
                exact W.iret (v := (3 : Int32)) hx hb hr (fun t ht hW => ⟨⟨(3 : Int32), (), rfl, vc, QB_mk (hP.sub [0, 1] rfl) (hD.sub [0, 1] rfl rfl) ht⟩, hS.F ht⟩) hS.2.2 dX9_whyNot_124
            · replace vc := vc.2 c_
              refine lv_iconst (v := (2 : Int32)) hx hb dX9_whyNot_104 (by decide) ?_
              refine lv_goto (tgt := 124) hx hb dX9_whyNot_105 (by decide) ?_
              exact W.iret (v := (2 : Int32)) hx hb hr (fun t ht hW => ⟨⟨(2 : Int32), (), rfl, vc, QB_mk (hP.sub [0, 1] rfl) (hD.sub [0, 1] rfl rfl) ht⟩, hS.F ht⟩) hS.2.2 dX9_whyNot_124
          · replace vc := vc.2 c2_0
            by_cases c2_1 : p0 = (5 : Int32)
            · replace vc := vc.1 c2_1
              refine lv_lookup (off := 56) (tgt := 125) hx hb dX9_whyNot_69 (by decide) (by rw [c2_1]; decide) (by decide) ?_
              refine lv_aload_n hx hb dX9_whyNot_125 rfl (lv_at hl 1 rfl) ?_
              refine va_get (D := D) (ci := 9) (v := .int v_present) (C := RX9) (T := TX9) (N := 30) hx hb hts mcX9_whyNot_X9 hown hK.1 hP 0 rfl rfl 0 (by decide) (hts _ mwX9_whyNot_2) (fun _ h9 => h9) rfl dX9_whyNot_126 ?_
              refine lv_iconst (v := (1 : Int32)) hx hb dX9_whyNot_129 (by decide) ?_
              refine lv_iload_n hx hb dX9_whyNot_130 rfl (lv_at hl 3 rfl) ?_
              refine lv_ishl hx hb dX9_whyNot_131 ?_
              refine lv_icmp_ne (tgt := 139) hx hb dX9_whyNot_132 (by decide) (fun c_ => ?_) (fun c_ => ?_)
              · replace vc := vc.1 c_
                refine lv_iconst (v := (0 : Int32)) hx hb dX9_whyNot_139 (by decide) ?_
                exact W.iret (v := (0 : Int32)) hx hb hr (fun t ht hW => ⟨⟨(0 : Int32), (), rfl, vc, QB_mk (hP.sub [0, 1] rfl) (hD.sub [0, 1] rfl rfl) ht⟩, hS.F ht⟩) hS.2.2 dX9_whyNot_140
              · replace vc := vc.2 c_
                refine lv_iconst (v := (5 : Int32)) hx hb dX9_whyNot_135 (by decide) ?_
                refine lv_goto (tgt := 140) hx hb dX9_whyNot_136 (by decide) ?_
                exact W.iret (v := (5 : Int32)) hx hb hr (fun t ht hW => ⟨⟨(5 : Int32), (), rfl, vc, QB_mk (hP.sub [0, 1] rfl) (hD.sub [0, 1] rfl rfl) ht⟩, hS.F ht⟩) hS.2.2 dX9_whyNot_140
            · replace vc := vc.2 c2_1
              refine lv_lookup (off := 72) (tgt := 141) hx hb dX9_whyNot_69 (by decide) (by show Op.lookupswitch.offset [(1, 27), (5, 56)] _ _ = _; rw [lv_osw c2_0 (by decide), lv_osw c2_1 (by decide)]; rfl) (by decide) ?_
              refine lv_iload hx hb dX9_whyNot_141 (lv_at hl 0 rfl) ?_
              refine lv_if_eq (tgt := 155) hx hb dX9_whyNot_143 (by decide) (fun _ => ?_) (fun c_ => absurd c_ (by decide))
              refine lv_iconst (v := (0 : Int32)) hx hb dX9_whyNot_155 (by decide) ?_
              exact W.iret (v := (0 : Int32)) hx hb hr (fun t ht hW => ⟨⟨(0 : Int32), (), rfl, vc, QB_mk (hP.sub [0, 1] rfl) (hD.sub [0, 1] rfl rfl) ht⟩, hS.F ht⟩) hS.2.2 dX9_whyNot_156
      · replace vc := vc.2 c_
        refine lv_iconst (v := (1 : Int32)) hx hb dX9_whyNot_32 (by decide) ?_
        refine lv_goto (tgt := 37) hx hb dX9_whyNot_33 (by decide) ?_
        refine lv_istore (lv' := [(4, .int (1 : Int32)), (0, .ref h_this), (1, .int p0), (2, .int p1), (3, .int p2)]) hx hb dX9_whyNot_37 hl (by decide) rfl (fun ls hl => ?_)
        refine lv_aload_n hx hb dX9_whyNot_39 rfl (lv_at hl 1 rfl) ?_
        refine va_get (D := D) (ci := 9) (v := .int v_present) (C := RX9) (T := TX9) (N := 30) hx hb hts mcX9_whyNot_X9 hown hK.1 hP 0 rfl rfl 0 (by decide) (hts _ mwX9_whyNot_2) (fun _ h9 => h9) rfl dX9_whyNot_40 ?_
        refine lv_iload_n hx hb dX9_whyNot_43 rfl (lv_at hl 3 rfl) ?_
        refine kj0_i (rest := []) (kS ⟨hx, hb, hml, hown, hts⟩ (kX9_has _ v_present p1 vc.1) (va_cwS 2 hts gX9_whyNot_X9_has rfl rfl rfl (by decide +kernel) ⟨(Nat.le_of_ble_eq_true rfl), (Nat.le_of_ble_eq_true rfl)⟩) hK rfl rfl hl.1 (Nat.le_of_ble_eq_true rfl) dX9_whyNot_44 ⟨(Nat.le_of_ble_eq_true rfl), (Nat.le_of_ble_eq_true rfl)⟩) hP hS hA (fun r_6 H locs hq_ hP hS => ?_)
        replace vc := vc.2 r_6 hq_
        have hP : va_P D vwCl [(h_this, .inr (9, [.int v_present, .ref h_this_wool, .ref h_this_stitches, .ref h_this_place, .int v_chest, .int v_years, .ref h_this_sightSundays, .ref h_this_sightWool, .int v_sights, .ref h_this_pad, .int v_padMany, .ref h_this_act, .ref h_this_which, .ref h_this_much, .int v_acts, .int v_sweptMany, .ref h_this_had, .int v_badAct, .int v_badWhy, .int v_sweptAct, .int v_sweptWhich, .ref h_this_rows, .ref h_this_groups, .ref h_this_covers, .ref h_this_byWool, .ref h_this_wins, .ref h_this_kept, .ref h_this_isKept, .int v_keptAt, .int v_isWriting])), (h_this_wool, .inl (cI, 10, .inl v_wool))] H := hP
        refine lv_if_eq (tgt := 66) hx hb dX9_whyNot_47 (by decide) (fun c_ => ?_) (fun c_ => ?_)
        · replace vc := vc.1 c_
          refine lv_iconst (v := (1 : Int32)) hx hb dX9_whyNot_66 (by decide) ?_
          exact W.iret (v := (1 : Int32)) hx hb hr (fun t ht hW => ⟨⟨(1 : Int32), (), rfl, vc, QB_mk (hP.sub [0, 1] rfl) (hD.sub [0, 1] rfl rfl) ht⟩, hS.F ht⟩) hS.2.2 dX9_whyNot_67
        · replace vc := vc.2 c_
          refine lv_iload hx hb dX9_whyNot_50 (lv_at hl 0 rfl) ?_
          refine lv_if_eq (tgt := 68) hx hb dX9_whyNot_52 (by decide) (fun c_ => absurd c_ (by decide)) (fun _ => ?_)
          refine lv_aload_n hx hb dX9_whyNot_55 rfl (lv_at hl 1 rfl) ?_
          refine va_get (D := D) (ci := 9) (v := .int v_present) (C := RX9) (T := TX9) (N := 30) hx hb hts mcX9_whyNot_X9 hown hK.1 hP 0 rfl rfl 0 (by decide) (hts _ mwX9_whyNot_2) (fun _ h9 => h9) rfl dX9_whyNot_56 ?_
          refine lv_iload_n hx hb dX9_whyNot_59 rfl (lv_at hl 4 rfl) ?_
          refine kj0_i (rest := []) (kS ⟨hx, hb, hml, hown, hts⟩ (kX9_has _ v_present p2 vc.1) (va_cwS 2 hts gX9_whyNot_X9_has rfl rfl rfl (by decide +kernel) ⟨(Nat.le_of_ble_eq_true rfl), (Nat.le_of_ble_eq_true rfl)⟩) hK rfl rfl hl.1 (Nat.le_of_ble_eq_true rfl) dX9_whyNot_60 ⟨(Nat.le_of_ble_eq_true rfl), (Nat.le_of_ble_eq_true rfl)⟩) hP hS hA (fun r_7 H locs hq_ hP hS => ?_)
          replace vc := vc.2 r_7 hq_
          have hP : va_P D vwCl [(h_this, .inr (9, [.int v_present, .ref h_this_wool, .ref h_this_stitches, .ref h_this_place, .int v_chest, .int v_years, .ref h_this_sightSundays, .ref h_this_sightWool, .int v_sights, .ref h_this_pad, .int v_padMany, .ref h_this_act, .ref h_this_which, .ref h_this_much, .int v_acts, .int v_sweptMany, .ref h_this_had, .int v_badAct, .int v_badWhy, .int v_sweptAct, .int v_sweptWhich, .ref h_this_rows, .ref h_this_groups, .ref h_this_covers, .ref h_this_byWool, .ref h_this_wins, .ref h_this_kept, .ref h_this_isKept, .int v_keptAt, .int v_isWriting])), (h_this_wool, .inl (cI, 10, .inl v_wool))] H := hP
          refine lv_if_ne (tgt := 68) hx hb dX9_whyNot_63 (by decide) (fun c_ => ?_) (fun c_ => ?_)
          · replace vc := vc.1 c_
            refine lv_iload_n hx hb dX9_whyNot_68 rfl (lv_at hl 2 rfl) ?_
            by_cases c3_0 : p0 = (1 : Int32)
            · replace vc := vc.1 c3_0
              refine lv_lookup (off := 27) (tgt := 96) hx hb dX9_whyNot_69 (by decide) (by rw [c3_0]; decide) (by decide) ?_
              refine lv_aload_n hx hb dX9_whyNot_96 rfl (lv_at hl 1 rfl) ?_
              refine va_get (D := D) (ci := 9) (v := .int v_chest) (C := RX9) (T := TX9) (N := 30) hx hb hts mcX9_whyNot_X9 hown hK.1 hP 0 rfl rfl 4 (by decide) (hts _ mwX9_whyNot_3) (fun _ h9 => h9) rfl dX9_whyNot_97 ?_
              refine lv_iconst (v := (5 : Int32)) hx hb dX9_whyNot_100 (by decide) ?_
              refine lv_icmp_ge (tgt := 108) hx hb dX9_whyNot_101 (by decide) (fun c_ => ?_) (fun c_ => ?_)
              · replace vc := vc.1 c_
                refine lv_aload_n hx hb dX9_whyNot_108 rfl (lv_at hl 1 rfl) ?_
                refine va_get (D := D) (ci := 9) (v := .ref h_this_wool) (C := RX9) (T := TX9) (N := 30) hx hb hts mcX9_whyNot_X9 hown hK.1 hP 0 rfl rfl 1 (by decide) (hts _ mwX9_whyNot_4) (fun _ h9 => h9) rfl dX9_whyNot_109 ?_
                refine lv_iload_n hx hb dX9_whyNot_112 rfl (lv_at hl 3 rfl) ?_
                have hi_8 := vc.1
                replace vc := vc.2
                refine va_iald hx hb hK.1 hP 1 0 rfl rfl hi_8 dX9_whyNot_113 ?_
                refine lv_bipush (v := (99 : Int32)) hx hb dX9_whyNot_114 (by decide) ?_
                refine lv_icmp_ne (tgt := 123) hx hb dX9_whyNot_116 (by decide) (fun c_ => ?_) (fun c_ => ?_)
                · replace vc := vc.1 c_
                  refine lv_iconst (v := (0 : Int32)) hx hb dX9_whyNot_123 (by decide) ?_
                  exact W.iret (v := (0 : Int32)) hx hb hr (fun t ht hW => ⟨⟨(0 : Int32), (), rfl, vc, QB_mk (hP.sub [0, 1] rfl) (hD.sub [0, 1] rfl rfl) ht⟩, hS.F ht⟩) hS.2.2 dX9_whyNot_124
                · replace vc := vc.2 c_
                  refine lv_iconst (v := (3 : Int32)) hx hb dX9_whyNot_119 (by decide) ?_
                  refine lv_goto (tgt := 124) hx hb dX9_whyNot_120 (by decide) ?_
                  exact W.iret (v := (3 : Int32)) hx hb hr (fun t ht hW => ⟨⟨(3 : Int32), (), rfl, vc, QB_mk (hP.sub [0, 1] rfl) (hD.sub [0, 1] rfl rfl) ht⟩, hS.F ht⟩) hS.2.2 dX9_whyNot_124
              · replace vc := vc.2 c_
                refine lv_iconst (v := (2 : Int32)) hx hb dX9_whyNot_104 (by decide) ?_
                refine lv_goto (tgt := 124) hx hb dX9_whyNot_105 (by decide) ?_
                exact W.iret (v := (2 : Int32)) hx hb hr (fun t ht hW => ⟨⟨(2 : Int32), (), rfl, vc, QB_mk (hP.sub [0, 1] rfl) (hD.sub [0, 1] rfl rfl) ht⟩, hS.F ht⟩) hS.2.2 dX9_whyNot_124
            · replace vc := vc.2 c3_0
              by_cases c3_1 : p0 = (5 : Int32)
              · replace vc := vc.1 c3_1
                refine lv_lookup (off := 56) (tgt := 125) hx hb dX9_whyNot_69 (by decide) (by rw [c3_1]; decide) (by decide) ?_
                refine lv_aload_n hx hb dX9_whyNot_125 rfl (lv_at hl 1 rfl) ?_
                refine va_get (D := D) (ci := 9) (v := .int v_present) (C := RX9) (T := TX9) (N := 30) hx hb hts mcX9_whyNot_X9 hown hK.1 hP 0 rfl rfl 0 (by decide) (hts _ mwX9_whyNot_2) (fun _ h9 => h9) rfl dX9_whyNot_126 ?_
                refine lv_iconst (v := (1 : Int32)) hx hb dX9_whyNot_129 (by decide) ?_
                refine lv_iload_n hx hb dX9_whyNot_130 rfl (lv_at hl 3 rfl) ?_
                refine lv_ishl hx hb dX9_whyNot_131 ?_
                refine lv_icmp_ne (tgt := 139) hx hb dX9_whyNot_132 (by decide) (fun c_ => ?_) (fun c_ => ?_)
                · replace vc := vc.1 c_
                  refine lv_iconst (v := (0 : Int32)) hx hb dX9_whyNot_139 (by decide) ?_
                  exact W.iret (v := (0 : Int32)) hx hb hr (fun t ht hW => ⟨⟨(0 : Int32), (), rfl, vc, QB_mk (hP.sub [0, 1] rfl) (hD.sub [0, 1] rfl rfl) ht⟩, hS.F ht⟩) hS.2.2 dX9_whyNot_140
                · replace vc := vc.2 c_
                  refine lv_iconst (v := (5 : Int32)) hx hb dX9_whyNot_135 (by decide) ?_
                  refine lv_goto (tgt := 140) hx hb dX9_whyNot_136 (by decide) ?_
                  exact W.iret (v := (5 : Int32)) hx hb hr (fun t ht hW => ⟨⟨(5 : Int32), (), rfl, vc, QB_mk (hP.sub [0, 1] rfl) (hD.sub [0, 1] rfl rfl) ht⟩, hS.F ht⟩) hS.2.2 dX9_whyNot_140
              · replace vc := vc.2 c3_1
                refine lv_lookup (off := 72) (tgt := 141) hx hb dX9_whyNot_69 (by decide) (by show Op.lookupswitch.offset [(1, 27), (5, 56)] _ _ = _; rw [lv_osw c3_0 (by decide), lv_osw c3_1 (by decide)]; rfl) (by decide) ?_
                refine lv_iload hx hb dX9_whyNot_141 (lv_at hl 0 rfl) ?_
                refine lv_if_eq (tgt := 155) hx hb dX9_whyNot_143 (by decide) (fun c_ => absurd c_ (by decide)) (fun _ => ?_)
                refine lv_iload_n hx hb dX9_whyNot_146 rfl (lv_at hl 3 rfl) ?_
                refine lv_iload_n hx hb dX9_whyNot_147 rfl (lv_at hl 4 rfl) ?_
                refine lv_icmp_ne (tgt := 155) hx hb dX9_whyNot_148 (by decide) (fun c_ => ?_) (fun c_ => ?_)
                · replace vc := vc.1 c_
                  refine lv_iconst (v := (0 : Int32)) hx hb dX9_whyNot_155 (by decide) ?_
                  exact W.iret (v := (0 : Int32)) hx hb hr (fun t ht hW => ⟨⟨(0 : Int32), (), rfl, vc, QB_mk (hP.sub [0, 1] rfl) (hD.sub [0, 1] rfl rfl) ht⟩, hS.F ht⟩) hS.2.2 dX9_whyNot_156
                · replace vc := vc.2 c_
                  refine lv_iconst (v := (4 : Int32)) hx hb dX9_whyNot_151 (by decide) ?_
                  refine lv_goto (tgt := 156) hx hb dX9_whyNot_152 (by decide) ?_
                  exact W.iret (v := (4 : Int32)) hx hb hr (fun t ht hW => ⟨⟨(4 : Int32), (), rfl, vc, QB_mk (hP.sub [0, 1] rfl) (hD.sub [0, 1] rfl rfl) ht⟩, hS.F ht⟩) hS.2.2 dX9_whyNot_156
          · replace vc := vc.2 c_
            refine lv_iconst (v := (1 : Int32)) hx hb dX9_whyNot_66 (by decide) ?_
            exact W.iret (v := (1 : Int32)) hx hb hr (fun t ht hW => ⟨⟨(1 : Int32), (), rfl, vc, QB_mk (hP.sub [0, 1] rfl) (hD.sub [0, 1] rfl rfl) ht⟩, hS.F ht⟩) hS.2.2 dX9_whyNot_67
  · replace vc := vc.2 c_
    refine lv_aload_n hx hb dX9_whyNot_6 rfl (lv_at hl 0 rfl) ?_
    refine va_get (D := D) (ci := 9) (v := .int v_years) (C := RX9) (T := TX9) (N := 30) hx hb hts mcX9_whyNot_X9 hown hK.1 hP 0 rfl rfl 5 (by decide) (hts _ mwX9_whyNot_1) (fun _ h9 => h9) rfl dX9_whyNot_7 ?_
    refine lv_bipush (v := (99 : Int32)) hx hb dX9_whyNot_10 (by decide) ?_
    refine lv_icmp_ne (tgt := 20) hx hb dX9_whyNot_12 (by decide) (fun c_ => ?_) (fun c_ => ?_)
    · replace vc := vc.1 c_
      refine lv_iconst (v := (0 : Int32)) hx hb dX9_whyNot_20 (by decide) ?_
      exact W.iret (v := (0 : Int32)) hx hb hr (fun t ht hW => ⟨⟨(0 : Int32), (), rfl, vc, QB_mk (hP.sub [0, 1] rfl) (hD.sub [0, 1] rfl rfl) ht⟩, hS.F ht⟩) hS.2.2 dX9_whyNot_21
    · replace vc := vc.2 c_
      refine lv_bipush (v := (6 : Int32)) hx hb dX9_whyNot_15 (by decide) ?_
      refine lv_goto (tgt := 21) hx hb dX9_whyNot_17 (by decide) ?_
      exact W.iret (v := (6 : Int32)) hx hb hr (fun t ht hW => ⟨⟨(6 : Int32), (), rfl, vc, QB_mk (hP.sub [0, 1] rfl) (hD.sub [0, 1] rfl rfl) ht⟩, hS.F ht⟩) hS.2.2 dX9_whyNot_21
