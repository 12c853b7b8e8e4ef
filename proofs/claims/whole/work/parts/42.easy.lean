/-! The plain calls, class and reference. -/
def hkO (k w s : Int32) : Bool := isH k && (wi w 1 99 && wi s 0 255)
def hkT (k w s th : Int32) : Int32 := if hkO k w s = true then th ||| ((1 : Int32) <<< (k &&& 31)) else th
def hkR (k w s th : Int32) : Int32 := if isH k = false then -1 else if hkO k w s = true then pc (hkT k w s th) else -2
def hkS (k w s : Int32) (fs : Nat → Int32) : Nat → Int32 := if hkO k w s = true then upd fs k.toNatClampNeg s else fs
def hkW (k w s : Int32) (fw : Nat → Int32) : Nat → Int32 := if hkO k w s = true then upd fw k.toNatClampNeg w else fw
def goR (k th : Int32) : Int32 := if thr th k = true then pc (awy th k) else -1
def goT (k th : Int32) : Int32 := if thr th k = true then awy th k else th
def haR (v ha : Int32) : Int32 := if wi v 0 999 = true then ha else -2
def haH (v ha : Int32) : Int32 := if wi v 0 999 = true then v else ha
def swO (a b : Int32) : Bool := isH a && (isH b && decide (¬ a = b))
def swaR (a b : Int32) (p : Nat → Int32) : Int32 := if swO a b = true then chg p a b a.toNatClampNeg else -1
def swaP (a b : Int32) (p : Nat → Int32) : Nat → Int32 := if swO a b = true then chg p a b else p
def sayR (v c : Int32) : Int32 := if wi v 33 126 = false then -2 else if c < 60 then c + (1 : Int32) else -4
def sayC (v c : Int32) : Int32 := if wi v 33 126 = true ∧ c < 60 then c + (1 : Int32) else c
def sayG (v c : Int32) (g : Nat → Int32) : Nat → Int32 := if wi v 33 126 = true ∧ c < 60 then upd g c.toNatClampNeg v else g
def feO (d v c : Int32) : Bool := wi d 0 60 && (wi v 0 99 && decide (c < 8))
def feR (d v c : Int32) : Int32 := if wi d 0 60 = false then -2 else if wi v 0 99 = false then -2 else if c < 8 then c + (1 : Int32) else -4
def feC (d v c : Int32) : Int32 := if feO d v c = true then c + (1 : Int32) else c
def feD (d v c : Int32) (f : Nat → Int32) : Nat → Int32 := if feO d v c = true then upd f c.toNatClampNeg d else f
def feV (d v c : Int32) (f : Nat → Int32) : Nat → Int32 := if feO d v c = true then upd f c.toNatClampNeg v else f
def okC8 (c : Int32) : Prop := ∃ n, n ≤ 8 ∧ c = nI n
def toR (k th : Int32) (p s w : Nat → Int32) : Int32 := if wi k 10 39 = false then -2 else if k.toNatClampNeg < 20 then p (k.toNatClampNeg % 10) else if hs th (nI (k.toNatClampNeg % 10)) = false then -2 else if k.toNatClampNeg < 30 then w (k.toNatClampNeg % 10) else s (k.toNatClampNeg % 10)
def tdR (k th ha ye : Int32) (p s w : Nat → Int32) (cP cS : Int32) : Int32 := if k = 0 then cP else if k = 1 then th else if k = 2 then ha else if k = 3 then ye else if k = 4 then cS else toR k th p s w
theorem okC_lt {c : Int32} (h : okC c) : (c < 60 ↔ ¬ c = 60) ∧ (c < 60 → vp_in c 60 ∧ okC (c + (1 : Int32))) := by
  obtain ⟨n, hn, rfl⟩ := h
  have e : (60 : Int32) = nI 60 := rfl
  rw [e, nI_ltI (by omega) (by omega), nI_eq (by omega) (by omega)]
  refine ⟨by omega, fun h => ⟨vp_in_nI (by omega) (by decide), n + 1, by omega, nI_1 n⟩⟩
theorem okC8_lt {c : Int32} (h : okC8 c) : (c < 8 ↔ ¬ c = 8) ∧ (c < 8 → vp_in c 8 ∧ okC8 (c + (1 : Int32))) := by
  obtain ⟨n, hn, rfl⟩ := h
  have e : (8 : Int32) = nI 8 := rfl
  rw [e, nI_ltI (by omega) (by omega), nI_eq (by omega) (by omega)]
  refine ⟨by omega, fun h => ⟨vp_in_nI (by omega) (by decide), n + 1, by omega, nI_1 n⟩⟩
theorem m10 {m : Nat} (h : m < 1000) : nI m - nI m / (10 : Int32) * (10 : Int32) = nI (m % 10) := pk_rem (a := m) (d := 10) (by omega) (by omega) (by omega)
section OK12
variable {l : Launch} {D : va_G} {cI cZ : ClassId}
theorem ok_X8_hassock : KX8_hassock l D cI cZ (fun _ _ _ _ _ _ => True) (fun k w s th fs fw r th2 fs2 fw2 => r = hkR k w s th ∧ th2 = hkT k w s th ∧ fs2 = hkS k w s fs ∧ fw2 = hkW k w s fw) := walkX8_hassock ok_X8_isHassock ok_X8_isWithin ok_X1_bring ok_X1_howMany (by
  rintro k w s th fs fw -
  refine ⟨trivial, ?_⟩
  rintro r rfl
  refine ⟨fun h => ⟨trivial, ?_⟩, fun h => ?_⟩
  · rw [bi_n0] at h
    rintro r rfl
    refine ⟨fun h2 => ?_, fun h2 => ⟨trivial, ?_⟩⟩
    · rw [bi_0] at h2
      simp [hkR, hkT, hkS, hkW, hkO, h, h2]
    · rw [bi_n0] at h2
      rintro r rfl
      refine ⟨fun h3 => ⟨h, ?_⟩, fun h3 => ?_⟩
      · rw [bi_n0] at h3
        rintro g f1 f2 ⟨rfl, rfl, rfl⟩
        refine ⟨trivial, ?_⟩
        rintro r rfl
        simp [hkR, hkT, hkS, hkW, hkO, h, h2, h3]
      · rw [bi_0] at h3
        simp [hkR, hkT, hkS, hkW, hkO, h, h2, h3]
  · rw [bi_0] at h
    simp [hkR, hkT, hkS, hkW, hkO, h])
theorem ok_X9_hassock : KX9_hassock l D cI cZ (fun _ _ _ th _ _ => rng 1024 th) (fun k w s th fs fw r th2 fs2 fw2 => r = hkR k w s th ∧ th2 = hkT k w s th ∧ fs2 = hkS k w s fs ∧ fw2 = hkW k w s fw) := walkX9_hassock ok_X9_isHassock ok_X9_in ok_X9_ones (by
  rintro k w s th fs fw ht
  refine ⟨trivial, ?_⟩
  rintro r rfl
  refine ⟨fun h => ⟨trivial, fun r hr => ?_⟩, fun h => ?_⟩
  · rw [bi_n0] at h
    rw [hr w 1 99 rfl (by decide) (by decide)]
    refine ⟨fun h2 => ?_, fun h2 => ⟨trivial, fun r hr => ?_⟩⟩
    · rw [bi_0] at h2
      simp [hkR, hkT, hkS, hkW, hkO, h, h2]
    · rw [bi_n0] at h2
      rw [hr s 0 255 rfl (by decide) (by decide)]
      refine ⟨fun h3 => ?_, fun h3 => ?_⟩
      · rw [bi_n0] at h3
        rintro x rfl
        refine ⟨isH_in h, isH_in h, rng_or ht h, ?_⟩
        rintro r rfl
        simp [hkR, hkT, hkS, hkW, hkO, h, h2, h3]
      · rw [bi_0] at h3
        simp [hkR, hkT, hkS, hkW, hkO, h, h2, h3]
  · rw [bi_0] at h
    simp [hkR, hkT, hkS, hkW, hkO, h])
theorem ok_X8_gone : KX8_gone l D cI cZ (fun _ _ => True) (fun k th r th2 => r = goR k th ∧ th2 = goT k th) := walkX8_gone ok_X1_isThere ok_X1_takeAway ok_X1_howMany (by
  rintro k th -
  refine ⟨trivial, ?_⟩
  rintro r rfl
  refine ⟨fun h => ⟨trivial, ?_⟩, fun h => ?_⟩
  · rw [bi_n0] at h
    rintro g rfl
    refine ⟨trivial, ?_⟩
    rintro r rfl
    simp [goR, goT, h]
  · rw [bi_0] at h
    simp [goR, goT, h])
theorem ok_X9_gone : KX9_gone l D cI cZ (fun _ th => rng 1024 th) (fun k th r th2 => r = goR k th ∧ th2 = goT k th) := walkX9_gone ok_X9_isHassock ok_X9_has ok_X9_ones (by
  rintro k th ht
  refine ⟨trivial, ?_⟩
  rintro r rfl
  refine ⟨fun h => ?_, fun h => ⟨trivial, ?_⟩⟩
  · rw [bi_0] at h
    simp [goR, goT, thr, h]
  · rw [bi_n0] at h
    rintro r rfl
    refine ⟨fun h2 => ?_, fun h2 => ?_⟩
    · rw [bi_n0] at h2
      rintro x rfl
      refine ⟨rng_awy ht h, ?_⟩
      rintro r rfl
      simp [goR, goT, thr, h, h2, awy]
    · rw [bi_0] at h2
      simp [goR, goT, thr, h2])
theorem ok_X8_hair : KX8_hair l D cI cZ (fun _ _ => True) (fun v ha r ha2 => r = haR v ha ∧ ha2 = haH v ha) := walkX8_hair ok_X8_isWithin (by
  rintro v ha -
  refine ⟨trivial, ?_⟩
  rintro r rfl
  repeat' first
    | (refine And.intro ?_ ?_)
    | (rintro _ rfl)
    | (intro _)
  all_goals simp_all [bi_0, bi_n0, haR, haH])
theorem ok_X9_hair : KX9_hair l D cI cZ (fun _ _ => True) (fun v ha r ha2 => r = haR v ha ∧ ha2 = haH v ha) := walkX9_hair ok_X9_in (by
  rintro v ha -
  refine ⟨trivial, fun r hr => ?_⟩
  rw [hr v 0 999 rfl (by decide) (by decide)]
  clear hr
  repeat' first
    | (refine And.intro ?_ ?_)
    | (rintro _ rfl)
    | (intro _)
  all_goals simp_all [bi_0, bi_n0, haR, haH])
theorem ok_X8_swap : KX8_swap l D cI cZ (fun _ _ _ => True) (fun a b p r p2 => r = swaR a b p ∧ p2 = swaP a b p) := walkX8_swap ok_X8_isHassock ok_X1_changePlaces (by
  rintro a b p -
  repeat' first
    | exact trivial
    | (refine isH_in ?_)
    | (refine And.intro ?_ ?_)
    | (rintro _ rfl)
    | (intro _)
  all_goals simp_all [bi_0, bi_n0, swaR, swaP, swO])
theorem ok_X9_swap : KX9_swap l D cI cZ (fun _ _ _ => True) (fun a b p r p2 => r = swaR a b p ∧ p2 = swaP a b p) := walkX9_swap ok_X9_isHassock ok_X9_change (by
  rintro a b p -
  repeat' first
    | exact trivial
    | (refine isH_in ?_)
    | (refine And.intro ?_ ?_)
    | (rintro _ rfl)
    | (intro _)
  all_goals simp_all [bi_0, bi_n0, swaR, swaP, swO])
theorem ok_X3_write : KX3_write l D cI cZ (fun _ c _ => okC c) (fun v c g r c2 g2 => r = bi (decide (c < 60)) ∧ c2 = (if c < 60 then c + (1 : Int32) else c) ∧ g2 = (if c < 60 then upd g c.toNatClampNeg v else g)) := walkX3_write (by
  rintro v c g hc
  refine ⟨fun h => ⟨((okC_lt hc).2 h).1, ?_⟩, fun h => ?_⟩
  · rintro x rfl
    simp [h, bi]
  · rw [decide_eq_false h, if_neg h, if_neg h]
    exact ⟨rfl, rfl, rfl⟩)
theorem ok_X8_say : KX8_say l D cI cZ (fun _ c _ => okC c) (fun v c g r c2 g2 => r = sayR v c ∧ c2 = sayC v c ∧ g2 = sayG v c g) := walkX8_say ok_X8_isWithin ok_X3_write (by
  rintro v c g hc
  refine ⟨trivial, ?_⟩
  rintro r rfl
  refine ⟨fun h => ⟨hc, ?_⟩, fun h => ?_⟩
  · rw [bi_n0] at h
    rintro r x f ⟨rfl, rfl, rfl⟩
    refine ⟨fun h2 => ?_, fun h2 => ?_⟩
    · rw [bi_0, decide_eq_false_iff_not] at h2
      rw [if_neg h2, if_neg h2]
      unfold sayR sayC sayG
      rw [if_neg (by rw [h]; decide), if_neg h2, if_neg (fun q => h2 q.2), if_neg (fun q => h2 q.2)]
      exact ⟨rfl, rfl, rfl⟩
    · rw [bi_n0, decide_eq_true_iff] at h2
      rw [if_pos h2, if_pos h2]
      unfold sayR sayC sayG
      rw [if_neg (by rw [h]; decide), if_pos h2, if_pos ⟨h, h2⟩, if_pos ⟨h, h2⟩]
      exact ⟨rfl, rfl, rfl⟩
  · rw [bi_0] at h
    unfold sayR sayC sayG
    rw [if_pos h, if_neg (by rw [h]; simp), if_neg (by rw [h]; simp)]
    exact ⟨rfl, rfl, rfl⟩)
theorem ok_X9_say : KX9_say l D cI cZ (fun _ c _ => okC c) (fun v c g r c2 g2 => r = sayR v c ∧ c2 = sayC v c ∧ g2 = sayG v c g) := walkX9_say ok_X9_in (by
  rintro v c g hc
  refine ⟨trivial, fun r hr => ?_⟩
  rw [hr v 33 126 rfl (by decide) (by decide)]
  refine ⟨fun h => ⟨fun h2 => ?_, fun h2 => ?_⟩, fun h => ?_⟩
  · rw [bi_n0] at h
    have h3 := (okC_lt hc).1.mpr h2
    refine ⟨((okC_lt hc).2 h3).1, ?_⟩
    rintro x rfl
    unfold sayR sayC sayG
    rw [if_neg (by rw [h]; decide), if_pos h3, if_pos ⟨h, h3⟩, if_pos ⟨h, h3⟩]
    exact ⟨rfl, rfl, rfl⟩
  · rw [bi_n0] at h
    have h3 : ¬ c < 60 := fun q => (okC_lt hc).1.mp q h2
    unfold sayR sayC sayG
    rw [if_neg (by rw [h]; decide), if_neg h3, if_neg (fun q => h3 q.2), if_neg (fun q => h3 q.2)]
    exact ⟨rfl, rfl, rfl⟩
  · rw [bi_0] at h
    unfold sayR sayC sayG
    rw [if_pos h, if_neg (by rw [h]; simp), if_neg (by rw [h]; simp)]
    exact ⟨rfl, rfl, rfl⟩)
theorem ok_X8_wipe : KX8_wipe l D cI cZ (fun _ => True) (fun c r c2 => r = c ∧ c2 = 0) := walkX8_wipe ok_X3_clear (by
  rintro c -
  refine ⟨trivial, ?_⟩
  rintro g rfl
  exact ⟨rfl, rfl⟩)
theorem ok_X9_wipe : KX9_wipe l D cI cZ (fun _ => True) (fun c r c2 => r = c ∧ c2 = 0) := walkX9_wipe (by
  rintro c -
  exact ⟨rfl, rfl⟩)
theorem ok_X8_fault : KX8_fault l D cI cZ (fun c _ => okC c) (fun c g r => r = tF c.toNatClampNeg g) := walkX8_fault ok_X3_firstFault (by
  rintro c g hc
  refine ⟨hc, ?_⟩
  rintro r rfl
  rfl)
theorem ok_X8_forget : KX8_forget l D cI cZ (fun _ => True) (fun c r c2 => r = c ∧ c2 = 0) := walkX8_forget (by
  rintro c -
  exact ⟨rfl, rfl⟩)
theorem ok_X9_forget : KX9_forget l D cI cZ (fun _ => True) (fun c r c2 => r = c ∧ c2 = 0) := walkX9_forget (by
  rintro c -
  exact ⟨rfl, rfl⟩)
theorem ok_X4_add : KX4_add l D cI cZ (fun _ _ c _ _ => okC8 c) (fun d v c fv fd r c2 fv2 fd2 => r = bi (decide (c < 8)) ∧ c2 = (if c < 8 then c + (1 : Int32) else c) ∧ fv2 = (if c < 8 then upd fv c.toNatClampNeg v else fv) ∧ fd2 = (if c < 8 then upd fd c.toNatClampNeg d else fd)) := walkX4_add (by
  rintro d v c fv fd hc
  refine ⟨fun h => ⟨((okC8_lt hc).2 h).1, ((okC8_lt hc).2 h).1, ?_⟩, fun h => ?_⟩
  · rintro x rfl
    simp [h, bi]
  · rw [decide_eq_false h, if_neg h, if_neg h, if_neg h]
    exact ⟨rfl, rfl, rfl, rfl⟩)
theorem fe_no {d v c : Int32} (h : feO d v c = false) (fv fd : Nat → Int32) : feC d v c = c ∧ feV d v c fv = fv ∧ feD d v c fd = fd := by
  unfold feC feV feD
  rw [h]
  simp
theorem fe_yes {d v c : Int32} (h : feO d v c = true) (fv fd : Nat → Int32) : feC d v c = c + (1 : Int32) ∧ feV d v c fv = upd fv c.toNatClampNeg v ∧ feD d v c fd = upd fd c.toNatClampNeg d := by
  unfold feC feV feD
  rw [h]
  simp
theorem ok_X8_felt : KX8_felt l D cI cZ (fun _ _ c _ _ => okC8 c) (fun d v c fv fd r c2 fv2 fd2 => r = feR d v c ∧ c2 = feC d v c ∧ fv2 = feV d v c fv ∧ fd2 = feD d v c fd) := walkX8_felt ok_X8_isWithin ok_X4_add (by
  rintro d v c fv fd hc
  refine ⟨trivial, ?_⟩
  rintro r rfl
  refine ⟨fun h => ?_, fun h => ⟨trivial, ?_⟩⟩
  · rw [bi_0] at h
    obtain ⟨e1, e2, e3⟩ := fe_no (d := d) (v := v) (c := c) (by simp [feO, h]) fv fd
    rw [e1, e2, e3]
    exact ⟨by simp [feR, h], rfl, rfl, rfl⟩
  · rw [bi_n0] at h
    rintro r rfl
    refine ⟨fun h2 => ⟨hc, ?_⟩, fun h2 => ?_⟩
    · rw [bi_n0] at h2
      rintro r x f1 f2 ⟨rfl, rfl, rfl, rfl⟩
      refine ⟨fun h3 => ?_, fun h3 => ?_⟩
      · rw [bi_0, decide_eq_false_iff_not] at h3
        obtain ⟨e1, e2, e3⟩ := fe_no (d := d) (v := v) (c := c) (by unfold feO; rw [decide_eq_false h3]; simp) fv fd
        rw [e1, e2, e3, if_neg h3, if_neg h3, if_neg h3]
        unfold feR
        rw [if_neg (by rw [h]; decide), if_neg (by rw [h2]; decide), if_neg h3]
        exact ⟨rfl, rfl, rfl, rfl⟩
      · rw [bi_n0, decide_eq_true_iff] at h3
        obtain ⟨e1, e2, e3⟩ := fe_yes (d := d) (v := v) (c := c) (by unfold feO; rw [decide_eq_true h3, h, h2]; rfl) fv fd
        rw [e1, e2, e3, if_pos h3, if_pos h3, if_pos h3]
        unfold feR
        rw [if_neg (by rw [h]; decide), if_neg (by rw [h2]; decide), if_pos h3]
        exact ⟨rfl, rfl, rfl, rfl⟩
    · rw [bi_0] at h2
      obtain ⟨e1, e2, e3⟩ := fe_no (d := d) (v := v) (c := c) (by simp [feO, h2]) fv fd
      rw [e1, e2, e3]
      exact ⟨by simp [feR, h, h2], rfl, rfl, rfl⟩)
theorem ok_X9_felt : KX9_felt l D cI cZ (fun _ _ c _ _ => okC8 c) (fun d v c fd fv r c2 fd2 fv2 => r = feR d v c ∧ c2 = feC d v c ∧ fd2 = feD d v c fd ∧ fv2 = feV d v c fv) := walkX9_felt ok_X9_in (by
  rintro d v c fd fv hc
  refine ⟨trivial, fun r hr => ?_⟩
  rw [hr d 0 60 rfl (by decide) (by decide)]
  refine ⟨fun h => ?_, fun h => ⟨trivial, fun r hr => ?_⟩⟩
  · rw [bi_0] at h
    obtain ⟨e1, e2, e3⟩ := fe_no (d := d) (v := v) (c := c) (by simp [feO, h]) fv fd
    rw [e1, e2, e3]
    exact ⟨by simp [feR, h], rfl, rfl, rfl⟩
  · rw [bi_n0] at h
    rw [hr v 0 99 rfl (by decide) (by decide)]
    refine ⟨fun h2 => ⟨fun h3 => ?_, fun h3 => ?_⟩, fun h2 => ?_⟩
    · rw [bi_n0] at h2
      have h4 := (okC8_lt hc).1.mpr h3
      have hv := ((okC8_lt hc).2 h4).1
      refine ⟨hv, hv, ?_⟩
      rintro x rfl
      obtain ⟨e1, e2, e3⟩ := fe_yes (d := d) (v := v) (c := c) (by unfold feO; rw [decide_eq_true h4, h, h2]; rfl) fv fd
      rw [e1, e2, e3]
      unfold feR
      rw [if_neg (by rw [h]; decide), if_neg (by rw [h2]; decide), if_pos h4]
      exact ⟨rfl, rfl, rfl, rfl⟩
    · rw [bi_n0] at h2
      have h4 : ¬ c < 8 := fun q => (okC8_lt hc).1.mp q h3
      obtain ⟨e1, e2, e3⟩ := fe_no (d := d) (v := v) (c := c) (by unfold feO; rw [decide_eq_false h4]; simp) fv fd
      rw [e1, e2, e3]
      unfold feR
      rw [if_neg (by rw [h]; decide), if_neg (by rw [h2]; decide), if_neg h4]
      exact ⟨rfl, rfl, rfl, rfl⟩
    · rw [bi_0] at h2
      obtain ⟨e1, e2, e3⟩ := fe_no (d := d) (v := v) (c := c) (by simp [feO, h2]) fv fd
      rw [e1, e2, e3]
      exact ⟨by simp [feR, h, h2], rfl, rfl, rfl⟩)
theorem ok_X8_toldOfHassock : KX8_toldOfHassock l D cI cZ (fun _ _ _ _ _ => True) (fun k th p s w r => r = toR k th p s w) := walkX8_toldOfHassock ok_X8_isWithin ok_X1_isThere (by
  rintro k th p s w -
  refine ⟨trivial, ?_⟩
  rintro r rfl
  refine ⟨fun h => ?_, fun h => ?_⟩
  · rw [bi_n0] at h
    obtain ⟨m, m1, m2, rfl⟩ := wi_nI (L := 10) (H := 39) h rfl rfl (by decide) (by decide)
    rintro x rfl
    have hm : m % 10 < 10 := Nat.mod_lt _ (by decide)
    have e20 : ((20 : Int32) ≤ nI m) ↔ 20 ≤ m := ctr_le rfl (by decide) (by omega)
    have e30 : ((30 : Int32) ≤ nI m) ↔ 30 ≤ m := ctr_le rfl (by decide) (by omega)
    rw [m10 (by omega), cl10 hm, e20, e30, thr_of (isH_of hm)]
    have ec : (nI m).toNatClampNeg = m := cl m (by omega)
    refine ⟨fun h2 => ⟨trivial, ?_⟩, fun h2 => ⟨in10 hm, ?_⟩⟩
    · rintro r rfl
      refine ⟨fun h3 => ⟨fun h4 => ⟨in10 hm, ?_⟩, fun h4 => ⟨in10 hm, ?_⟩⟩, fun h3 => ?_⟩
      · rw [bi_n0] at h3
        unfold toR
        rw [if_neg (by rw [h]; decide), ec, if_neg (by omega), if_neg (by rw [h3]; decide), if_neg (by omega)]
      · rw [bi_n0] at h3
        unfold toR
        rw [if_neg (by rw [h]; decide), ec, if_neg (by omega), if_neg (by rw [h3]; decide), if_pos (by omega)]
      · rw [bi_0] at h3
        unfold toR
        rw [if_neg (by rw [h]; decide), ec, if_neg (by omega), if_pos h3]
    · unfold toR
      rw [if_neg (by rw [h]; decide), ec, if_pos (by omega)]
  · rw [bi_0] at h
    unfold toR
    rw [if_pos h])
theorem ok_X8_told : KX8_told l D cI cZ (fun _ _ _ _ _ _ _ _ _ => True) (fun k th ha ye p s w cP cS r => r = tdR k th ha ye p s w cP cS) := walkX8_told ok_X8_toldOfHassock (by
  rintro k th ha ye p s w cP cS -
  unfold tdR
  refine ⟨fun h => by rw [if_pos h], fun h0 => ⟨fun h => by rw [if_neg h0, if_pos h], fun h1 => ⟨fun h => by rw [if_neg h0, if_neg h1, if_pos h], fun h2 => ⟨fun h => by rw [if_neg h0, if_neg h1, if_neg h2, if_pos h], fun h3 => ⟨fun h => by rw [if_neg h0, if_neg h1, if_neg h2, if_neg h3, if_pos h], fun h4 => ⟨trivial, ?_⟩⟩⟩⟩⟩⟩
  rintro r rfl
  rw [if_neg h0, if_neg h1, if_neg h2, if_neg h3, if_neg h4])
theorem ok_X9_ofThere : KX9_ofThere l D cI cZ (fun k _ _ _ => wi k 20 39 = true) (fun k th s w r => ∀ p, r = toR k th p s w) := walkX9_ofThere ok_X9_has (by
  rintro k th s w h
  obtain ⟨m, m1, m2, rfl⟩ := wi_nI (L := 20) (H := 39) h rfl rfl (by decide) (by decide)
  rintro x rfl
  have hm : m % 10 < 10 := Nat.mod_lt _ (by decide)
  have e30 : ((30 : Int32) ≤ nI m) ↔ 30 ≤ m := ctr_le rfl (by decide) (by omega)
  have key : ∀ m, m < 40 → 20 ≤ m → wi (nI m) 10 39 = true := by decide
  have h1 := key m (by omega) m1
  have ec : (nI m).toNatClampNeg = m := cl m (by omega)
  rw [m10 (by omega), cl10 hm, e30]
  refine ⟨trivial, ?_⟩
  rintro r rfl
  refine ⟨fun h3 => ⟨fun h4 => ⟨in10 hm, fun p => ?_⟩, fun h4 => ⟨in10 hm, fun p => ?_⟩⟩, fun h3 p => ?_⟩
  · rw [bi_n0] at h3
    unfold toR
    rw [if_neg (by rw [h1]; decide), ec, if_neg (by omega), if_neg (by rw [h3]; decide), if_neg (by omega)]
  · rw [bi_n0] at h3
    unfold toR
    rw [if_neg (by rw [h1]; decide), ec, if_neg (by omega), if_neg (by rw [h3]; decide), if_pos (by omega)]
  · rw [bi_0] at h3
    unfold toR
    rw [if_neg (by rw [h1]; decide), ec, if_neg (by omega), if_pos h3])
theorem ok_X9_told : KX9_told l D cI cZ (fun _ _ _ _ _ _ _ _ _ => True) (fun k th ha ye cS cP p s w r => r = tdR k th ha ye p s w cP cS) := walkX9_told ok_X9_in ok_X9_ofThere (by
  rintro k th ha ye cS cP p s w -
  refine ⟨trivial, fun r hr => ?_⟩
  rw [hr k 10 19 rfl (by decide) (by decide)]
  have small : ∀ a : Int32, wi k 10 39 = true → wi a 10 39 = false → ¬ k = a := by
    rintro a h1 h2 rfl
    rw [h1] at h2
    cases h2
  have n0 := fun h => small 0 h (by decide)
  have n1 := fun h => small 1 h (by decide)
  have n2 := fun h => small 2 h (by decide)
  have n3 := fun h => small 3 h (by decide)
  have n4 := fun h => small 4 h (by decide)
  refine ⟨fun h => ⟨trivial, fun r hr => ?_⟩, fun h => ?_⟩
  · rw [bi_0] at h
    rw [hr k 20 39 rfl (by decide) (by decide)]
    refine ⟨fun h2 => ?_, fun h2 => ⟨?_, fun r hr => ?_⟩⟩
    · rw [bi_0] at h2
      have h3 : wi k 10 39 = false := by
        cases e : wi k 10 39
        · rfl
        · exfalso
          obtain ⟨m, m1, m2, rfl⟩ := wi_nI (L := 10) (H := 39) e rfl rfl (by decide) (by decide)
          have key : ∀ m, m < 40 → 10 ≤ m → wi (nI m) 10 19 = false → wi (nI m) 20 39 = false → False := by decide
          exact key m (by omega) m1 h h2
      unfold tdR toR
      refine ⟨fun q => by rw [if_pos q], fun h0 => ⟨fun q => by rw [if_neg h0, if_pos q], fun h1 => ⟨fun q => by rw [if_neg h0, if_neg h1, if_pos q], fun h2 => ⟨fun q => by rw [if_neg h0, if_neg h1, if_neg h2, if_pos q], fun h3' => ⟨fun q => by rw [if_neg h0, if_neg h1, if_neg h2, if_neg h3', if_pos q], fun h4 => ?_⟩⟩⟩⟩⟩
      rw [if_neg h0, if_neg h1, if_neg h2, if_neg h3', if_neg h4, if_pos h3]
    · exact bi_n0.mp h2
    · rw [hr p]
      have h3 : wi k 10 39 = true := by
        obtain ⟨m, m1, m2, rfl⟩ := wi_nI (L := 20) (H := 39) (bi_n0.mp h2) rfl rfl (by decide) (by decide)
        have key : ∀ m, m < 40 → 20 ≤ m → wi (nI m) 10 39 = true := by decide
        exact key m (by omega) m1
      unfold tdR
      rw [if_neg (n0 h3), if_neg (n1 h3), if_neg (n2 h3), if_neg (n3 h3), if_neg (n4 h3)]
  · rw [bi_n0] at h
    obtain ⟨m, m1, m2, rfl⟩ := wi_nI (L := 10) (H := 19) h rfl rfl (by decide) (by decide)
    have h3 : wi (nI m) 10 39 = true := by
      have key : ∀ m, m < 20 → 10 ≤ m → wi (nI m) 10 39 = true := by decide
      exact key m (by omega) m1
    have e : nI m - (10 : Int32) = nI (m - 10) := pk_sub m1
    rw [e]
    refine ⟨in10 (by omega), ?_⟩
    rw [cl10 (show m - 10 < 10 by omega)]
    unfold tdR toR
    rw [if_neg (n0 h3), if_neg (n1 h3), if_neg (n2 h3), if_neg (n3 h3), if_neg (n4 h3), if_neg (by rw [h3]; decide), cl m (by omega), if_pos (by omega)]
    congr 1
    omega)
end OK12
