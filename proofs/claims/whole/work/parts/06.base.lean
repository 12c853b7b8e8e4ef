/-! The machine's constant facts in one word (classes, array classes, nest links), and calls as one row each. -/
def NWall : List (String × Nat × MethodName × String) := [(RX8, 21, yX3_init, RX8), (RX8, 28, yX7_init, RX8), (RX8, 35, yX0_init, RX8), (RX8, 49, yX4_init, RX8), (RX8, 56, yX6_init, RX8), (RX8, 63, yX2_init, RX8), (RX0, 47, yX8_isIn, RX8), (RX1, 31, yX8_isHassock, RX8), (RX1, 35, yX8_isIn, RX8), (RX2, 22, yX4_init, RX8), (RX3, 33, yX8_isWithin, RX8)]
def nwC (q : String × Nat × MethodName × String) : Cond := .methodLinkNest q.1 q.2.1 q.2.2.1 q.2.2.2
def KN (U : State) : Prop := ∀ q ∈ NWall, va_Nw (nwC q) U
def KK (D : va_G) (cI cZ : ClassId) (U : State) : Prop := va_K D vwCl [(cI, .int), (cZ, .boolean)] U ∧ KN U
theorem KK_warm {D : va_G} {cI cZ : ClassId} {s U : State} (h : KK D cI cZ s) (hW : s.WarmedH U.vm) : KK D cI cZ U := ⟨va_K.moved hW.alike h.1, fun q hq => va_Nw.warmM hW (h.2 q hq)⟩
theorem KK_call {D : va_G} {cI cZ : ClassId} {U : State} {g : JFrame} {mk : MethodId} {a : Array Value} (h : KK D cI cZ U) : KK D cI cZ (U.calling g mk a) := ⟨va_K.moved (u := U) (U := U.calling g mk a) (Vm.Alike.refl U.vm) h.1, fun q hq => va_Nw.same (u := U) (U := U.calling g mk a) rfl rfl (h.2 q hq)⟩
theorem KK_n0 {D : va_G} {cI cZ : ClassId} {s : State} (h : KK D cI cZ s) : va_Nw (.methodLinkNest RX8 21 yX3_init RX8) s := h.2 (RX8, 21, yX3_init, RX8) (List.mem_of_getElem? (i := 0) rfl)
theorem KK_n1 {D : va_G} {cI cZ : ClassId} {s : State} (h : KK D cI cZ s) : va_Nw (.methodLinkNest RX8 28 yX7_init RX8) s := h.2 (RX8, 28, yX7_init, RX8) (List.mem_of_getElem? (i := 1) rfl)
theorem KK_n2 {D : va_G} {cI cZ : ClassId} {s : State} (h : KK D cI cZ s) : va_Nw (.methodLinkNest RX8 35 yX0_init RX8) s := h.2 (RX8, 35, yX0_init, RX8) (List.mem_of_getElem? (i := 2) rfl)
theorem KK_n3 {D : va_G} {cI cZ : ClassId} {s : State} (h : KK D cI cZ s) : va_Nw (.methodLinkNest RX8 49 yX4_init RX8) s := h.2 (RX8, 49, yX4_init, RX8) (List.mem_of_getElem? (i := 3) rfl)
theorem KK_n4 {D : va_G} {cI cZ : ClassId} {s : State} (h : KK D cI cZ s) : va_Nw (.methodLinkNest RX8 56 yX6_init RX8) s := h.2 (RX8, 56, yX6_init, RX8) (List.mem_of_getElem? (i := 4) rfl)
theorem KK_n5 {D : va_G} {cI cZ : ClassId} {s : State} (h : KK D cI cZ s) : va_Nw (.methodLinkNest RX8 63 yX2_init RX8) s := h.2 (RX8, 63, yX2_init, RX8) (List.mem_of_getElem? (i := 5) rfl)
theorem KK_n6 {D : va_G} {cI cZ : ClassId} {s : State} (h : KK D cI cZ s) : va_Nw (.methodLinkNest RX0 47 yX8_isIn RX8) s := h.2 (RX0, 47, yX8_isIn, RX8) (List.mem_of_getElem? (i := 6) rfl)
theorem KK_n7 {D : va_G} {cI cZ : ClassId} {s : State} (h : KK D cI cZ s) : va_Nw (.methodLinkNest RX1 31 yX8_isHassock RX8) s := h.2 (RX1, 31, yX8_isHassock, RX8) (List.mem_of_getElem? (i := 7) rfl)
theorem KK_n8 {D : va_G} {cI cZ : ClassId} {s : State} (h : KK D cI cZ s) : va_Nw (.methodLinkNest RX1 35 yX8_isIn RX8) s := h.2 (RX1, 35, yX8_isIn, RX8) (List.mem_of_getElem? (i := 8) rfl)
theorem KK_n9 {D : va_G} {cI cZ : ClassId} {s : State} (h : KK D cI cZ s) : va_Nw (.methodLinkNest RX2 22 yX4_init RX8) s := h.2 (RX2, 22, yX4_init, RX8) (List.mem_of_getElem? (i := 9) rfl)
theorem KK_n10 {D : va_G} {cI cZ : ClassId} {s : State} (h : KK D cI cZ s) : va_Nw (.methodLinkNest RX3 33 yX8_isWithin RX8) s := h.2 (RX3, 33, yX8_isWithin, RX8) (List.mem_of_getElem? (i := 10) rfl)
def PB (D : va_G) (cI cZ : ClassId) (sz : Nat) (ws : va_W) : State → Prop := fun U => U.heap.size = sz ∧ va_P D vwCl ws U.heap ∧ KK D cI cZ U ∧ va_D (fun _ => True) ws
theorem PB_blind {D : va_G} {cI cZ : ClassId} {sz : Nat} {ws : va_W} {av : List Value} : FrameBlind (va_Pc av (PB D cI cZ sz ws)) := fun a U g mk q => by
  obtain ⟨q0, q1, qP, qK, qD⟩ := q
  exact ⟨q0, q1, qP, KK_call qK, qD⟩
theorem PB_at {D : va_G} {cI cZ : ClassId} {ws : va_W} {av : List Value} {s : State} {H : Heap} {A : Nat → Prop} (hK : KK D cI cZ s) (hP : va_P D vwCl ws H) (hD : va_D A ws) : ∀ U : State, U.heap = H → s.WarmedH U.vm → va_Pc av (PB D cI cZ H.size ws) av.toArray U := fun U hU hW => ⟨rfl, by rw [hU], by rw [hU]; exact hP, KK_warm hK hW, hD.weaken (fun _ _ _ _ => trivial)⟩
def QB (D : va_G) (ws : va_W) (A : Nat → Prop) (t : State) : Prop := va_P D vwCl ws t.heap ∧ va_D A ws
theorem QB_mk {D : va_G} {w : va_W} {A : Nat → Prop} {t : State} {H : Heap} (hP : va_P D vwCl w H) (hD : va_D A w) (ht : t.heap = H) : QB D w A t := by
  subst ht
  exact ⟨hP, hD⟩
abbrev MI (l : Launch) (y : MethodName) (ws : List Cond) (rm : Room) (av : List Value) (D : va_G) (cI cZ : ClassId) (sz : Nat) (w0 : va_W) {S : Type} (post : Int32 → S → Prop) (w1 : S → va_W) (mc ms : Nat) : Prop := Met l y ws rm (va_Pc av (PB D cI cZ sz w0)) (va_Qi post (fun u t => QB D (w1 u) (va_A w0 sz) t) (va_A w0 sz)) mc ms (va_A w0 sz)
abbrev ML (l : Launch) (y : MethodName) (ws : List Cond) (rm : Room) (av : List Value) (D : va_G) (cI cZ : ClassId) (sz : Nat) (w0 : va_W) {S : Type} (post : Int64 → S → Prop) (w1 : S → va_W) (mc ms : Nat) : Prop := Met l y ws rm (va_Pc av (PB D cI cZ sz w0)) (va_Ql post (fun u t => QB D (w1 u) (va_A w0 sz) t) (va_A w0 sz)) mc ms (va_A w0 sz)
abbrev MV (l : Launch) (y : MethodName) (ws : List Cond) (rm : Room) (av : List Value) (D : va_G) (cI cZ : ClassId) (sz : Nat) (w0 : va_W) {S : Type} (post : S → Prop) (w1 : S → va_W) (mc ms : Nat) : Prop := Met l y ws rm (va_Pc av (PB D cI cZ sz w0)) (va_Qv post (fun u t => QB D (w1 u) (va_A w0 sz) t) (va_A w0 sz)) mc ms (va_A w0 sz)
abbrev MR (l : Launch) (y : MethodName) (ws : List Cond) (rm : Room) (av : List Value) (D : va_G) (cI cZ : ClassId) (sz : Nat) (w0 : va_W) (post : Nat → Prop) (mc ms : Nat) : Prop := Met l y ws rm (va_Pc av (PB D cI cZ sz w0)) (va_Qr (S := Unit) (fun _ => True) (fun _ a t => QB D w0 (va_A w0 sz) t ∧ post a) (va_A w0 sz)) mc ms (va_A w0 sz)
theorem P_of {D : va_G} {cl : List vw_C} {w wc : va_W} {H : Heap} (hP : va_P D cl w H) {is : List Nat} (hC : is.map (fun i => w[i]?) = wc.map some) : va_P D cl wc H := by
  intro k q hq
  have h1 : (is.map (fun i => w[i]?))[k]? = some (some q) := by rw [hC, List.getElem?_map, hq]; rfl
  rw [List.getElem?_map] at h1
  cases hi : is[k]? with
  | none => rw [hi] at h1; cases h1
  | some i =>
    rw [hi] at h1
    exact hP i q (Option.some.inj h1)
theorem bool_isB {r : Int32} (h : r = 0 ∨ r = 1) : narrow .boolean (.int r) = .int r := by
  rcases h with rfl | rfl <;> rfl
theorem nar_isB {r : Int32} (h : r = 0 ∨ r = 1) : vp_nar .boolean r = r := by
  rcases h with rfl | rfl <;> rfl
theorem vpd {i : Int32} {n : Nat} (h : decide (¬ (i < 0 ∨ n ≤ i.toNatClampNeg)) = true) : vp_in i n := by
  unfold vp_in
  exact of_decide_eq_true h
theorem neT {x k : Int32} {n : Int} (c : ¬ x = k) (hk : k.toInt = n) : x.toInt ≠ n := fun e => c (Int32.toInt_inj.mp (e.trans hk.symm))
section RUN
variable {p : Program} {l : Launch} {e : Env} {R : Room} {s : State} {m : MethodId} {args : Array Value} {below : List Frame} {meth : Method} {c : Code} {H : Heap} {locs : List Loc} {cells slots : Nat} {Q : State → Prop}
variable {y : MethodName} {bytes cc : ByteArray} {maxL nL mc ms n index : Nat} {ret : Option FieldType} {ws : List Cond} {rm : Room} {Qc : Array Value → State → Outcome → State → Prop} {free : Addr → Prop} {Ts : List Cond} {own C host : String} {b : Addr} {As rest st0 : List Value} {pc : Nat} {ls : Array Slot} {D : va_G} {cI cZ : ClassId} {w wc wr : va_W} {A0 : Nat → Prop} {H0 : Heap}
theorem kV (cf : CallFix p m c cc nL s args Ts own) (hM : Met l y ws rm (va_Pc (.ref b :: As) (PB D cI cZ H.size wc)) Qc mc ms free) (cw : CallW R s args own C index y bytes maxL ret ws rm mc ms n) (hK : KK D cI cZ s) (hP : va_P D vwCl w H) (hD : va_D A0 w) (isC : List Nat) (hC : isC.map (fun i => w[i]?) = wc.map some) (hn1 : va_nd isC = true) (q0 ci : Nat) {fs : List Value} {q : vw_C} (hc : vwCl[ci]? = some q) (hqC : q.1 = C) (he : wc[q0]? = some (b, .inr (ci, fs))) (hst : st0 = As.reverse ++ .ref b :: rest) (hn : As.length = n) (hsize : ls.size = nL) (hW : (rest.map fun v => v.category).sum ≤ 8) (hdg : decode cc pc = .ok (.invokevirtual index, 3)) (hf : cells + mc ≤ R.cells ∧ slots + ms ≤ R.slots) : va_Run p l e R s m args below meth c H locs cells slots mc ms (F0 m pc ls st0) rest (Qc (Value.ref b :: As).toArray) free := by
  subst hqC
  have hPc := P_of hP hC
  exact va_runV (g := F0 m pc ls st0) cf hM cw ⟨PB_blind, va_recv hK.1 hPc hc he, PB_at hK hPc (hD.sub isC hn1 hC)⟩ rfl hn hsize hst (lv_room hW) hdg hf
theorem kI (cf : CallFix p m c cc nL s args Ts own) (hM : Met l y ws rm (va_Pc (.ref b :: As) (PB D cI cZ H.size wc)) Qc mc ms free) (cw : CallB R s args own index y bytes maxL none ws rm mc ms n ∧ y.name = "<init>" ∧ (Cond.instanceMethod y).before args s = true) (hK : KK D cI cZ s) (hP : va_P D vwCl w H) (hD : va_D A0 w) (isC : List Nat) (hC : isC.map (fun i => w[i]?) = wc.map some) (hn1 : va_nd isC = true) (hst : st0 = As.reverse ++ .ref b :: rest) (hn : As.length = n) (hsize : ls.size = nL) (hW : (rest.map fun v => v.category).sum ≤ 8) (hdg : decode cc pc = .ok (.invokespecial index, 3)) (hf : cells + mc ≤ R.cells ∧ slots + ms ≤ R.slots) : va_Run p l e R s m args below meth c H locs cells slots mc ms (F0 m pc ls st0) rest (Qc (Value.ref b :: As).toArray) free := by
  have hPc := P_of hP hC
  exact va_runI (g := F0 m pc ls st0) cf hM cw ⟨PB_blind, PB_at hK hPc (hD.sub isC hn1 hC)⟩ rfl hn hsize hst (lv_room hW) hdg hf
theorem kIN (cf : CallFix p m c cc nL s args Ts own) (hM : Met l y ws rm (va_Pc (.ref b :: As) (PB D cI cZ H.size wc)) Qc mc ms free) (cw : va_CN R s args own index y host bytes maxL none ws rm mc ms n ∧ y.name = "<init>" ∧ (Cond.instanceMethod y).before args s = true) (hK : KK D cI cZ s) (hP : va_P D vwCl w H) (hD : va_D A0 w) (isC : List Nat) (hC : isC.map (fun i => w[i]?) = wc.map some) (hn1 : va_nd isC = true) (hst : st0 = As.reverse ++ .ref b :: rest) (hn : As.length = n) (hsize : ls.size = nL) (hW : (rest.map fun v => v.category).sum ≤ 8) (hdg : decode cc pc = .ok (.invokespecial index, 3)) (hf : cells + mc ≤ R.cells ∧ slots + ms ≤ R.slots) : va_Run p l e R s m args below meth c H locs cells slots mc ms (F0 m pc ls st0) rest (Qc (Value.ref b :: As).toArray) free := by
  have hPc := P_of hP hC
  exact va_runIN (g := F0 m pc ls st0) cf hM cw ⟨PB_blind, PB_at hK hPc (hD.sub isC hn1 hC)⟩ rfl hn hsize hst (lv_room hW) hdg hf
theorem kS (cf : CallFix p m c cc nL s args Ts own) (hM : Met l y ws rm (va_Pc As (PB D cI cZ H.size [])) Qc mc ms free) (cw : CallB R s args own index y bytes maxL ret ws rm mc ms n ∧ (Cond.static y).before args s = true) (hK : KK D cI cZ s) (hst : st0 = As.reverse ++ rest) (hn : As.length = n) (hsize : ls.size = nL) (hW : (rest.map fun v => v.category).sum ≤ 8) (hdg : decode cc pc = .ok (.invokestatic index, 3)) (hf : cells + mc ≤ R.cells ∧ slots + ms ≤ R.slots) : va_Run p l e R s m args below meth c H locs cells slots mc ms (F0 m pc ls st0) rest (Qc As.toArray) free := by
  exact va_runS (g := F0 m pc ls st0) cf hM cw ⟨PB_blind, PB_at (A := fun _ => True) hK (fun k q h => by simp at h) ⟨fun i j p q h => by simp at h, fun k q h => by simp at h⟩⟩ rfl hn hsize hst (lv_room hW) hdg hf
theorem kSN (cf : CallFix p m c cc nL s args Ts own) (hM : Met l y ws rm (va_Pc As (PB D cI cZ H.size [])) Qc mc ms free) (cw : va_CN R s args own index y host bytes maxL ret ws rm mc ms n ∧ (Cond.static y).before args s = true ∧ True) (hK : KK D cI cZ s) (hst : st0 = As.reverse ++ rest) (hn : As.length = n) (hsize : ls.size = nL) (hW : (rest.map fun v => v.category).sum ≤ 8) (hdg : decode cc pc = .ok (.invokestatic index, 3)) (hf : cells + mc ≤ R.cells ∧ slots + ms ≤ R.slots) : va_Run p l e R s m args below meth c H locs cells slots mc ms (F0 m pc ls st0) rest (Qc As.toArray) free := by
  exact va_runSN (g := F0 m pc ls st0) cf hM cw ⟨PB_blind, PB_at (A := fun _ => True) hK (fun k q h => by simp at h) ⟨fun i j p q h => by simp at h, fun k q h => by simp at h⟩⟩ rfl hn hsize hst (lv_room hW) hdg hf
/-- behind a call that asks for no cell of ours -/
theorem kj0_i {post : Int32 → Unit → Prop} {a : Array Value} (hr : va_Run p l e R s m args below meth c H locs cells slots 0 0 (F0 m pc ls st0) rest (va_Qi post (fun u t => QB D ((fun _ => []) u) (va_A [] H.size) t) (va_A [] H.size) a) (va_A [] H.size)) (hP : va_P D vwCl w H) (hS : va_S A0 H0 H locs) (hA : ∀ q, H0.size ≤ q → A0 q) (kk : ∀ (r : Int32) (H1 : Heap) (locs1 : List Loc), post r () → va_P D vwCl w H1 → va_S A0 H0 H1 locs1 → W p l e R s m args below meth c H1 locs1 cells slots Q (F0 m (pc + 3) ls (.int r :: rest))) : W p l e R s m args below meth c H locs cells slots Q (F0 m pc ls st0) := by
  have hF : ∀ q, va_A [] H.size q → A0 q := fun q h => by
    rcases h with ⟨k, e, h⟩ | h
    · simp at h
    · exact hA q (Nat.le_trans hS.1 h)
  refine va_calli hr hS (fun q _ h => hF q h) hF (fun r u t H1 locs1 ht hvm hw hB hz hk hS1 => ?_)
  refine kk r H1 locs1 hw (hP.kept fun k q hq => hk q.1 ((hP k q hq).lt) (fun h => ?_)) hS1
  rcases h with ⟨k2, e, h⟩ | h
  · simp at h
  · exact absurd ((hP k q hq).lt) (Nat.not_lt.mpr h)
theorem kj0_l {post : Int64 → Unit → Prop} {a : Array Value} (hr : va_Run p l e R s m args below meth c H locs cells slots 0 0 (F0 m pc ls st0) rest (va_Ql post (fun u t => QB D ((fun _ => []) u) (va_A [] H.size) t) (va_A [] H.size) a) (va_A [] H.size)) (hP : va_P D vwCl w H) (hS : va_S A0 H0 H locs) (hA : ∀ q, H0.size ≤ q → A0 q) (kk : ∀ (r : Int64) (H1 : Heap) (locs1 : List Loc), post r () → va_P D vwCl w H1 → va_S A0 H0 H1 locs1 → W p l e R s m args below meth c H1 locs1 cells slots Q (F0 m (pc + 3) ls (.long r :: rest))) : W p l e R s m args below meth c H locs cells slots Q (F0 m pc ls st0) := by
  have hF : ∀ q, va_A [] H.size q → A0 q := fun q h => by
    rcases h with ⟨k, e, h⟩ | h
    · simp at h
    · exact hA q (Nat.le_trans hS.1 h)
  refine va_calll hr hS (fun q _ h => hF q h) hF (fun r u t H1 locs1 ht hvm hw hB hz hk hS1 => ?_)
  refine kk r H1 locs1 hw (hP.kept fun k q hq => hk q.1 ((hP k q hq).lt) (fun h => ?_)) hS1
  rcases h with ⟨k2, e, h⟩ | h
  · simp at h
  · exact absurd ((hP k q hq).lt) (Nat.not_lt.mpr h)
theorem nin_of {isR isC : List Nat} (h : isR.all (fun i => !(isC.contains i)) = true) : ∀ i ∈ isR, i ∉ isC := fun i hi hc => by
  have := List.all_eq_true.mp h i hi
  simp [hc] at this
theorem kj_i {S : Type} {post : Int32 → S → Prop} {w1 : S → va_W} {a : Array Value} (hr : va_Run p l e R s m args below meth c H locs cells slots 0 0 (F0 m pc ls st0) rest (va_Qi post (fun u t => QB D (w1 u) (va_A wc H.size) t) (va_A wc H.size) a) (va_A wc H.size)) (hP : va_P D vwCl w H) (hD : va_D A0 w) (hS : va_S A0 H0 H locs) (hA : ∀ q, H0.size ≤ q → A0 q) (isC isR : List Nat) (hC : isC.map (fun i => w[i]?) = wc.map some) (hR : isR.map (fun i => w[i]?) = wr.map some) (hn : va_nd isR = true) (hdis : isR.all (fun i => !(isC.contains i)) = true) (kk : ∀ (r : Int32) (u : S) (H1 : Heap) (locs1 : List Loc), post r u → va_P D vwCl (wr ++ w1 u) H1 → va_D A0 (wr ++ w1 u) → va_S A0 H0 H1 locs1 → W p l e R s m args below meth c H1 locs1 cells slots Q (F0 m (pc + 3) ls (.int r :: rest))) : W p l e R s m args below meth c H locs cells slots Q (F0 m pc ls st0) := by
  have hF := va_free hD hS hA isC hC
  refine va_calli hr hS (fun q _ h => hF q h) hF (fun r u t H1 locs1 ht hvm hw hB hz hk hS1 => ?_)
  obtain ⟨hP1, hD1⟩ := hB
  rw [ht] at hP1
  obtain ⟨hP2, hD2⟩ := va_join hP hD isC isR hC hR hn (nin_of hdis) hk hF hP1 hD1
  exact kk r u H1 locs1 hw hP2 hD2 hS1
theorem kj_l {S : Type} {post : Int64 → S → Prop} {w1 : S → va_W} {a : Array Value} (hr : va_Run p l e R s m args below meth c H locs cells slots 0 0 (F0 m pc ls st0) rest (va_Ql post (fun u t => QB D (w1 u) (va_A wc H.size) t) (va_A wc H.size) a) (va_A wc H.size)) (hP : va_P D vwCl w H) (hD : va_D A0 w) (hS : va_S A0 H0 H locs) (hA : ∀ q, H0.size ≤ q → A0 q) (isC isR : List Nat) (hC : isC.map (fun i => w[i]?) = wc.map some) (hR : isR.map (fun i => w[i]?) = wr.map some) (hn : va_nd isR = true) (hdis : isR.all (fun i => !(isC.contains i)) = true) (kk : ∀ (r : Int64) (u : S) (H1 : Heap) (locs1 : List Loc), post r u → va_P D vwCl (wr ++ w1 u) H1 → va_D A0 (wr ++ w1 u) → va_S A0 H0 H1 locs1 → W p l e R s m args below meth c H1 locs1 cells slots Q (F0 m (pc + 3) ls (.long r :: rest))) : W p l e R s m args below meth c H locs cells slots Q (F0 m pc ls st0) := by
  have hF := va_free hD hS hA isC hC
  refine va_calll hr hS (fun q _ h => hF q h) hF (fun r u t H1 locs1 ht hvm hw hB hz hk hS1 => ?_)
  obtain ⟨hP1, hD1⟩ := hB
  rw [ht] at hP1
  obtain ⟨hP2, hD2⟩ := va_join hP hD isC isR hC hR hn (nin_of hdis) hk hF hP1 hD1
  exact kk r u H1 locs1 hw hP2 hD2 hS1
theorem kj_v {S : Type} {post : S → Prop} {w1 : S → va_W} {a : Array Value} (hr : va_Run p l e R s m args below meth c H locs cells slots mc ms (F0 m pc ls st0) rest (va_Qv post (fun u t => QB D (w1 u) (va_A wc H.size) t) (va_A wc H.size) a) (va_A wc H.size)) (hP : va_P D vwCl w H) (hD : va_D A0 w) (hS : va_S A0 H0 H locs) (hA : ∀ q, H0.size ≤ q → A0 q) (isC isR : List Nat) (hC : isC.map (fun i => w[i]?) = wc.map some) (hR : isR.map (fun i => w[i]?) = wr.map some) (hn : va_nd isR = true) (hdis : isR.all (fun i => !(isC.contains i)) = true) (kk : ∀ (u : S) (H1 : Heap) (locs1 : List Loc), post u → va_P D vwCl (wr ++ w1 u) H1 → va_D A0 (wr ++ w1 u) → va_S A0 H0 H1 locs1 → W p l e R s m args below meth c H1 locs1 (cells + mc) (slots + ms) Q (F0 m (pc + 3) ls rest)) : W p l e R s m args below meth c H locs cells slots Q (F0 m pc ls st0) := by
  have hF := va_free hD hS hA isC hC
  refine va_callv hr hS (fun q _ h => hF q h) hF (fun u t H1 locs1 ht hvm hw hB hz hk hS1 => ?_)
  obtain ⟨hP1, hD1⟩ := hB
  rw [ht] at hP1
  obtain ⟨hP2, hD2⟩ := va_join hP hD isC isR hC hR hn (nin_of hdis) hk hF hP1 hD1
  exact kk u H1 locs1 hw hP2 hD2 hS1
theorem kj_r {post : Nat → Prop} {a : Array Value} (hr : va_Run p l e R s m args below meth c H locs cells slots 0 0 (F0 m pc ls st0) rest (va_Qr (S := Unit) (fun _ => True) (fun _ a t => QB D wc (va_A wc H.size) t ∧ post a) (va_A wc H.size) a) (va_A wc H.size)) (hP : va_P D vwCl w H) (hD : va_D A0 w) (hS : va_S A0 H0 H locs) (hA : ∀ q, H0.size ≤ q → A0 q) (isC isR : List Nat) (hC : isC.map (fun i => w[i]?) = wc.map some) (hR : isR.map (fun i => w[i]?) = wr.map some) (hn : va_nd isR = true) (hdis : isR.all (fun i => !(isC.contains i)) = true) (kk : ∀ (ra : Nat) (H1 : Heap) (locs1 : List Loc), post ra → va_P D vwCl (wr ++ wc) H1 → va_D A0 (wr ++ wc) → va_S A0 H0 H1 locs1 → W p l e R s m args below meth c H1 locs1 cells slots Q (F0 m (pc + 3) ls (.ref ra :: rest))) : W p l e R s m args below meth c H locs cells slots Q (F0 m pc ls st0) := by
  have hF := va_free hD hS hA isC hC
  refine va_callr hr hS (fun q _ h => hF q h) hF (fun u ra t H1 locs1 ht hvm hw hB hz hk hS1 => ?_)
  obtain ⟨⟨hP1, hD1⟩, hpo⟩ := hB
  rw [ht] at hP1
  obtain ⟨hP2, hD2⟩ := va_join hP hD isC isR hC hR hn (nin_of hdis) hk hF hP1 hD1
  exact kk ra H1 locs1 hpo hP2 hD2 hS1
/-- a loop: every state of its head that holds I comes to the goal, by the measure n -/
theorem kloop {V : Type} {I : Nat → V → Prop} {wv : V → va_W} {lv : V → List (Nat × Value)} {st : List Value} (n0 : Nat) (v0 : V) (h0 : I n0 v0) (hP : va_P D vwCl (wv v0) H) (hD : va_D A0 (wv v0)) (hS : va_S A0 H0 H locs) (hl : lv_has ls nL (lv v0))
    (step : ∀ (n : Nat) (v : V), I n v → (∀ (n1 : Nat) (v1 : V), n1 < n → I n1 v1 → ∀ (H1 : Heap) (locs1 : List Loc), va_P D vwCl (wv v1) H1 → va_D A0 (wv v1) → va_S A0 H0 H1 locs1 → ∀ ls1 : Array Slot, lv_has ls1 nL (lv v1) → W p l e R s m args below meth c H1 locs1 cells slots Q (F0 m pc ls1 st)) → ∀ (H1 : Heap) (locs1 : List Loc), va_P D vwCl (wv v) H1 → va_D A0 (wv v) → va_S A0 H0 H1 locs1 → ∀ ls1 : Array Slot, lv_has ls1 nL (lv v) → W p l e R s m args below meth c H1 locs1 cells slots Q (F0 m pc ls1 st)) :
    W p l e R s m args below meth c H locs cells slots Q (F0 m pc ls st) := by
  have key : ∀ (n : Nat) (v : V), I n v → ∀ (H1 : Heap) (locs1 : List Loc), va_P D vwCl (wv v) H1 → va_D A0 (wv v) → va_S A0 H0 H1 locs1 → ∀ ls1 : Array Slot, lv_has ls1 nL (lv v) → W p l e R s m args below meth c H1 locs1 cells slots Q (F0 m pc ls1 st) := by
    intro n
    induction n using Nat.strongRecOn with
    | ind n ih => exact fun v hv => step n v hv (fun n1 v1 h1 hi => ih n1 h1 v1 hi)
  exact key n0 v0 h0 H locs hP hD hS ls hl
end RUN
