/-! What is asked of texts: class and reference. -/
def tF (cn : Nat) (g : Nat → Int32) : Int32 := flt cn g 60 0
def tE (σ : DSt) (cn : Nat) (g : Nat → Int32) : DSt := rEnd σ (tA cn g) (tW cn g) (tM cn g) (nA cn g)
def tB (σ : DSt) (cn : Nat) (g : Nat → Int32) : Int32 := rBad σ (tA cn g) (tW cn g) (tM cn g) (nA cn g)
def tY (σ : DSt) (cn : Nat) (g : Nat → Int32) : Int32 := rWhy σ (tA cn g) (tW cn g) (tM cn g) (nA cn g)
def tS (σ : DSt) (cn : Nat) (g : Nat → Int32) : Int32 × Int32 × Int32 := rSw σ (tA cn g) (tW cn g) (tM cn g) (nA cn g)
def rf (σ : DSt) (cn : Nat) (g : Nat → Int32) : Int32 := if tF cn g = -6 then (if tB σ cn g = -6 then 0 else -3) else -5
theorem rf_0 {σ : DSt} {cn : Nat} {g : Nat → Int32} : rf σ cn g = 0 ↔ tF cn g = -6 ∧ tB σ cn g = -6 := by
  unfold rf
  by_cases h : tF cn g = -6 <;> by_cases h2 : tB σ cn g = -6 <;> simp [h, h2]
theorem rf_5 {σ : DSt} {cn : Nat} {g : Nat → Int32} : rf σ cn g = -5 ↔ ¬ tF cn g = -6 := by
  unfold rf
  by_cases h : tF cn g = -6 <;> by_cases h2 : tB σ cn g = -6 <;> simp [h, h2]
theorem rf_3 {σ : DSt} {cn : Nat} {g : Nat → Int32} : rf σ cn g = -3 ↔ tF cn g = -6 ∧ ¬ tB σ cn g = -6 := by
  unfold rf
  by_cases h : tF cn g = -6 <;> by_cases h2 : tB σ cn g = -6 <;> simp [h, h2]
theorem fa_or (cn : Nat) (g : Nat → Int32) {a : Nat} (ha : a < 500) : fa cn g a = -6 ∨ ∃ m, m < 1000 ∧ fa cn g a = nI m := by
  unfold fa
  repeat' split
  all_goals first
    | exact Or.inl rfl
    | exact Or.inr ⟨_, by omega, rfl⟩
theorem flt_or (cn : Nat) (g : Nat → Int32) : ∀ f a, a + 3 * f < 500 → flt cn g f a = -6 ∨ ∃ m, m < 1000 ∧ flt cn g f a = nI m := by
  intro f
  induction f with
  | zero => exact fun _ _ => Or.inl rfl
  | succ f ih =>
    intro a ha
    show (if cn ≤ a then -6 else if fa cn g a = -6 then flt cn g f (a + ln cn g a) else fa cn g a) = -6 ∨ ∃ m, m < 1000 ∧ (if cn ≤ a then -6 else if fa cn g a = -6 then flt cn g f (a + ln cn g a) else fa cn g a) = nI m
    have := (ln_pos cn g a).2
    split
    · exact Or.inl rfl
    · split
      · exact ih _ (by omega)
      · exact fa_or cn g (by omega)
theorem or6_neg {x : Int32} (h : x = -6 ∨ ∃ m, m < 1000 ∧ x = nI m) : x < 0 ↔ x = -6 := by
  rcases h with rfl | ⟨m, hm, rfl⟩
  · decide
  · exact ⟨fun q => absurd q (nI_pos (by omega)), fun q => absurd q (nI_n6 hm)⟩
theorem tF_neg (cn : Nat) (g : Nat → Int32) : tF cn g < 0 ↔ tF cn g = -6 := or6_neg (flt_or cn g 60 0 (by decide))
theorem rBad_neg {σ : DSt} {ak aw am : Nat → Int32} {N : Nat} (hN : N ≤ 60) : rBad σ ak aw am N < 0 ↔ rBad σ ak aw am N = -6 := by
  apply or6_neg
  unfold rBad
  have := (goJ_le σ ak aw am N 0).2
  split
  · exact Or.inl rfl
  · exact Or.inr ⟨_, by show goJ σ ak aw am N 0 < 1000; omega, rfl⟩
theorem tB_all {σ : DSt} {cn : Nat} {g : Nat → Int32} (hN : nA cn g ≤ 60) (h : tB σ cn g = -6) : rJ σ (tA cn g) (tW cn g) (tM cn g) (nA cn g) = nA cn g := by
  unfold tB rBad at h
  have := (goJ_le σ (tA cn g) (tW cn g) (tM cn g) (nA cn g) 0).2
  by_cases q : rJ σ (tA cn g) (tW cn g) (tM cn g) (nA cn g) = nA cn g
  · exact q
  · rw [if_neg q] at h
    exact absurd h (nI_n6 (by show goJ σ (tA cn g) (tW cn g) (tM cn g) (nA cn g) 0 < 1000; omega))
def jud (σ : DSt) (cn : Nat) (g : Nat → Int32) (k : Int32) : Int32 := if wi k 0 2 = false then -2 else if ¬ tF cn g = -6 then -5 else if k = 0 then tB σ cn g else if k = 1 then tY σ cn g else if ¬ tB σ cn g = -6 then -3 else (tS σ cn g).1
def ofH (τ : DSt) (k v : Int32) : Int32 := if v = 3 then dP τ k.toNatClampNeg else if v = 0 then bi (hs (dT τ) k) else if hs (dT τ) k = false then -6 else if v = 1 then dW τ k.toNatClampNeg else dS τ k.toNatClampNeg
def beh (σ : DSt) (cn : Nat) (g : Nat → Int32) (k v : Int32) : Int32 := if isH k = false then -1 else if wi v 0 3 = false then -2 else if ¬ rf σ cn g = 0 then rf σ cn g else ofH (tE σ cn g) k v
def seeR (σ : DSt) (cn : Nat) (g : Nat → Int32) (v : Int32) : Int32 := if wi v 0 3 = false then -2 else if ¬ rf σ cn g = 0 then rf σ cn g else if v = 0 then dH (tE σ cn g) else if v = 1 then dT (tE σ cn g) else if v = 2 then sIA (dT (tE σ cn g)) (dS (tE σ cn g)) 10 else dY (tE σ cn g)
def swR (σ : DSt) (cn : Nat) (g : Nat → Int32) (v : Int32) : Int32 := if wi v 0 1 = false then -2 else if ¬ rf σ cn g = 0 then rf σ cn g else if v = 0 then (tS σ cn g).2.1 else (tS σ cn g).2.2
def doR (σ : DSt) (cn : Nat) (g : Nat → Int32) : Int32 := if ¬ rf σ cn g = 0 then rf σ cn g else nI (nA cn g)
def doS (σ : DSt) (cn : Nat) (g : Nat → Int32) : DSt := if ¬ rf σ cn g = 0 then σ else tE σ cn g
def Z3 (p s w : Nat → Int32) : Prop := Zf 10 p ∧ Zf 10 s ∧ Zf 10 w
theorem Z3_ok {σ : DSt} (h : okσ σ) : Z3 (dP σ) (dS σ) (dW σ) := ⟨h.2.2.2.2.2.2.1, h.2.2.2.2.2.2.2.1, h.2.2.2.2.2.2.2.2⟩
theorem tE_ok {σ : DSt} {cn : Nat} {g : Nat → Int32} (h : okσ σ) (hf : tF cn g = -6) (hc : cn ≤ 60) : okσ (tE σ cn g) := rEnd_ok h (text_act hf hc)
section OK10
variable {l : Launch} {D : va_G} {cI cZ : ClassId}
theorem ok_X3_clear : KX3_clear l D cI cZ (fun _ => True) (fun _ c2 => c2 = 0) := walkX3_clear (by
  rintro c -
  rfl)
theorem ok_X8_tryText : KX8_tryText l D cI cZ (fun th ha ye p s w c g t1 t2 t3 t4 t5 t6 y1 y2 y3 y4 y5 y6 => okC c ∧ okS th ha ye p s w ∧ Z3 t4 t5 t6) (fun th ha ye p s w c g t1 t2 t3 t4 t5 t6 y1 y2 y3 y4 y5 y6 r u1 u2 u3 u4 u5 u6 z1 z2 z3 z4 z5 z6 => r = rf (th, ha, ye, p, s, w) c.toNatClampNeg g ∧ Z3 u4 u5 u6 ∧ (tF c.toNatClampNeg g = -6 → (u1, u2, u3, u4, u5, u6) = tE (th, ha, ye, p, s, w) c.toNatClampNeg g ∧ (z4, z5, z6) = tS (th, ha, ye, p, s, w) c.toNatClampNeg g ∧ z2 = tB (th, ha, ye, p, s, w) c.toNatClampNeg g ∧ z3 = tY (th, ha, ye, p, s, w) c.toNatClampNeg g ∧ z1 = nI (rJ (th, ha, ye, p, s, w) (tA c.toNatClampNeg g) (tW c.toNatClampNeg g) (tM c.toNatClampNeg g) (nA c.toNatClampNeg g)))) := walkX8_tryText ok_X3_firstFault ok_X1_copyFrom ok_X7_run (by
  rintro th ha ye p s w c g t1 t2 t3 t4 t5 t6 y1 y2 y3 y4 y5 y6 ⟨hc, hS, hZ⟩
  obtain ⟨ec, hc60⟩ := okC_cl hc
  refine ⟨hc, ?_⟩
  rintro r rfl
  refine ⟨fun h => ⟨trivial, ?_⟩, fun h => ?_⟩
  · rintro th ha ye f1 f2 f3 ⟨rfl, rfl, rfl, rfl, rfl, rfl⟩
    rw [cp_eq hZ.1 hS.2.2.2.2.2.2.1, cp_eq hZ.2.1 hS.2.2.2.2.2.2.2.1, cp_eq hZ.2.2 hS.2.2.2.2.2.2.2.2]
    refine ⟨⟨hc, hS, h⟩, ?_⟩
    rintro x1 x2 x3 x4 x5 x6 x7 x8 x9 x10 x11 x12 ⟨e1, e2, rfl, rfl, rfl⟩
    have hok := tE_ok (σ := (th, ha, ye, p, s, w)) hS h hc60
    have hZ2 : Z3 x10 x11 x12 := by
      have := Z3_ok hok
      have e1' : (x7, x8, x9, x10, x11, x12) = tE (th, ha, ye, p, s, w) c.toNatClampNeg g := e1
      rw [← e1'] at this
      exact this
    refine ⟨fun h2 => ?_, fun h2 => ?_⟩
    · exact ⟨(rf_3.mpr ⟨h, h2⟩).symm, hZ2, fun _ => ⟨e1, e2, rfl, rfl, rfl⟩⟩
    · exact ⟨(rf_0.mpr ⟨h, h2⟩).symm, hZ2, fun _ => ⟨e1, e2, rfl, rfl, rfl⟩⟩
  · exact ⟨(rf_5.mpr h).symm, hZ, fun q => absurd q h⟩)
theorem ok_X8_judge : KX8_judge l D cI cZ (fun k th ha ye p s w c g t1 t2 t3 t4 t5 t6 y1 y2 y3 y4 y5 y6 => okC c ∧ okS th ha ye p s w ∧ Z3 t4 t5 t6) (fun k th ha ye p s w c g t1 t2 t3 t4 t5 t6 y1 y2 y3 y4 y5 y6 r u1 u2 u3 u4 u5 u6 z1 z2 z3 z4 z5 z6 => r = jud (th, ha, ye, p, s, w) c.toNatClampNeg g k ∧ Z3 u4 u5 u6) := walkX8_judge ok_X8_isWithin ok_X8_tryText (by
  rintro k th ha ye p s w c g t1 t2 t3 t4 t5 t6 y1 y2 y3 y4 y5 y6 hP
  have hZ := hP.2.2
  refine ⟨trivial, ?_⟩
  rintro r rfl
  refine ⟨fun h => ⟨hP, ?_⟩, fun h => ?_⟩
  · rw [bi_n0] at h
    rintro r u1 u2 u3 u4 u5 u6 z1 z2 z3 z4 z5 z6 ⟨rfl, h1, h2⟩
    refine ⟨fun h5 => ⟨fun k0 => ⟨fun k1 => ⟨fun h3 => ?_, fun h3 => ?_⟩, fun k1 => ?_⟩, fun k0 => ?_⟩, fun h5 => ?_⟩
    all_goals refine ⟨?_, h1⟩
    all_goals rw [rf_5] at h5
    · have hf : tF c.toNatClampNeg g = -6 := Classical.not_not.mp h5
      obtain ⟨-, e2, e3, e4, -⟩ := h2 hf
      have hb : tB (th, ha, ye, p, s, w) c.toNatClampNeg g = -6 := Classical.not_not.mp (fun q => h3 (rf_3.mpr ⟨hf, q⟩))
      simp [jud, h, hf, k0, k1, hb, ← e2]
    · rw [rf_3] at h3
      simp [jud, h, h3.1, k0, k1, h3.2]
    · have hf : tF c.toNatClampNeg g = -6 := Classical.not_not.mp h5
      obtain ⟨-, e2, e3, e4, -⟩ := h2 hf
      subst k1
      simp [jud, h, hf, e4]
    · have hf : tF c.toNatClampNeg g = -6 := Classical.not_not.mp h5
      obtain ⟨-, e2, e3, e4, -⟩ := h2 hf
      subst k0
      simp [jud, h, hf, e3]
    · simp [jud, h, h5]
  · rw [bi_0] at h
    exact ⟨by simp [jud, h], hZ⟩)
theorem ok_X8_swept : KX8_swept l D cI cZ (fun k th ha ye p s w c g t1 t2 t3 t4 t5 t6 y1 y2 y3 y4 y5 y6 => okC c ∧ okS th ha ye p s w ∧ Z3 t4 t5 t6) (fun k th ha ye p s w c g t1 t2 t3 t4 t5 t6 y1 y2 y3 y4 y5 y6 r u1 u2 u3 u4 u5 u6 z1 z2 z3 z4 z5 z6 => r = swR (th, ha, ye, p, s, w) c.toNatClampNeg g k ∧ Z3 u4 u5 u6) := walkX8_swept ok_X8_isWithin ok_X8_tryText (by
  rintro k th ha ye p s w c g t1 t2 t3 t4 t5 t6 y1 y2 y3 y4 y5 y6 hP
  have hZ := hP.2.2
  refine ⟨trivial, ?_⟩
  rintro r rfl
  refine ⟨fun h => ⟨hP, ?_⟩, fun h => ?_⟩
  · rw [bi_n0] at h
    rintro r u1 u2 u3 u4 u5 u6 z1 z2 z3 z4 z5 z6 ⟨rfl, h1, h2⟩
    refine ⟨fun h5 => ⟨fun k0 => ?_, fun k0 => ?_⟩, fun h5 => ?_⟩
    all_goals refine ⟨?_, h1⟩
    · obtain ⟨-, e2, -⟩ := h2 (rf_0.mp h5).1
      simp [swR, h, h5, k0, ← e2]
    · obtain ⟨-, e2, -⟩ := h2 (rf_0.mp h5).1
      subst k0
      simp [swR, h, h5, ← e2]
    · simp [swR, h, h5]
  · rw [bi_0] at h
    exact ⟨by simp [swR, h], hZ⟩)
theorem ok_X8_see : KX8_see l D cI cZ (fun k th ha ye p s w c g t1 t2 t3 t4 t5 t6 y1 y2 y3 y4 y5 y6 => okC c ∧ okS th ha ye p s w ∧ Z3 t4 t5 t6) (fun k th ha ye p s w c g t1 t2 t3 t4 t5 t6 y1 y2 y3 y4 y5 y6 r u1 u2 u3 u4 u5 u6 z1 z2 z3 z4 z5 z6 => r = seeR (th, ha, ye, p, s, w) c.toNatClampNeg g k ∧ Z3 u4 u5 u6) := walkX8_see ok_X8_isWithin ok_X8_tryText ok_X1_stitchesInAll (by
  rintro k th ha ye p s w c g t1 t2 t3 t4 t5 t6 y1 y2 y3 y4 y5 y6 hP
  have hZ := hP.2.2
  refine ⟨trivial, ?_⟩
  rintro r rfl
  refine ⟨fun h => ⟨hP, ?_⟩, fun h => ?_⟩
  · rw [bi_n0] at h
    rintro r u1 u2 u3 u4 u5 u6 z1 z2 z3 z4 z5 z6 ⟨rfl, h1, h2⟩
    refine ⟨fun h5 => ⟨fun k0 => ?_, fun k0 => ⟨fun k1 => ?_, fun k1 => ⟨fun k2 => ⟨trivial, ?_⟩, fun k2 => ?_⟩⟩⟩, fun h5 => ?_⟩
    · obtain ⟨e1, -⟩ := h2 (rf_0.mp h5).1
      subst k0
      exact ⟨by simp [seeR, h, h5, ← e1], h1⟩
    · obtain ⟨e1, -⟩ := h2 (rf_0.mp h5).1
      subst k1
      exact ⟨by simp [seeR, h, h5, ← e1], h1⟩
    · obtain ⟨e1, -⟩ := h2 (rf_0.mp h5).1
      rintro r rfl
      subst k2
      exact ⟨by simp [seeR, h, h5, ← e1], h1⟩
    · obtain ⟨e1, -⟩ := h2 (rf_0.mp h5).1
      exact ⟨by simp [seeR, h, h5, k0, k1, k2, ← e1], h1⟩
    · exact ⟨by simp [seeR, h, h5], h1⟩
  · rw [bi_0] at h
    exact ⟨by simp [seeR, h], hZ⟩)
theorem ok_X8_behind : KX8_behind l D cI cZ (fun k v th ha ye p s w c g t1 t2 t3 t4 t5 t6 y1 y2 y3 y4 y5 y6 => okC c ∧ okS th ha ye p s w ∧ Z3 t4 t5 t6) (fun k v th ha ye p s w c g t1 t2 t3 t4 t5 t6 y1 y2 y3 y4 y5 y6 r u1 u2 u3 u4 u5 u6 z1 z2 z3 z4 z5 z6 => r = beh (th, ha, ye, p, s, w) c.toNatClampNeg g k v ∧ Z3 u4 u5 u6) := walkX8_behind ok_X8_isHassock ok_X8_isWithin ok_X8_tryText ok_X1_isThere (by
  rintro k v th ha ye p s w c g t1 t2 t3 t4 t5 t6 y1 y2 y3 y4 y5 y6 hP
  have hZ := hP.2.2
  refine ⟨trivial, ?_⟩
  rintro r rfl
  refine ⟨fun hk => ⟨trivial, ?_⟩, fun h => ?_⟩
  · rw [bi_n0] at hk
    have hkv := isH_in hk
    rintro r rfl
    refine ⟨fun h => ⟨hP, ?_⟩, fun h => ?_⟩
    · rw [bi_n0] at h
      rintro r u1 u2 u3 u4 u5 u6 z1 z2 z3 z4 z5 z6 ⟨rfl, h1, h2⟩
      refine ⟨fun h5 => ?_, fun h5 => ⟨by simp [beh, hk, h, h5], h1⟩⟩
      obtain ⟨e1, -⟩ := h2 (rf_0.mp h5).1
      refine ⟨fun k3 => ⟨fun k0 => ⟨trivial, ?_⟩, fun k0 => ⟨trivial, ?_⟩⟩, fun k3 => ⟨hkv, by subst k3; simp [beh, hk, h, h5, ofH, ← e1], h1⟩⟩
      · rintro r rfl
        refine ⟨fun h6 => ⟨fun k1 => ⟨hkv, ?_, h1⟩, fun k1 => ⟨hkv, ?_, h1⟩⟩, fun h6 => ⟨?_, h1⟩⟩
        · rw [bi_n0, thr_of hk] at h6
          simp [beh, hk, h, h5, ofH, k3, k0, k1, ← e1, h6]
        · rw [bi_n0, thr_of hk] at h6
          subst k1
          simp [beh, hk, h, h5, ofH, ← e1, h6]
        · rw [bi_0, thr_of hk] at h6
          simp [beh, hk, h, h5, ofH, k3, k0, ← e1, h6]
      · rintro r rfl
        refine ⟨fun h6 => ⟨?_, h1⟩, fun h6 => ⟨?_, h1⟩⟩
        · rw [bi_0, thr_of hk] at h6
          subst k0
          simp [beh, hk, h, h5, ofH, ← e1, h6, bi]
        · rw [bi_n0, thr_of hk] at h6
          subst k0
          simp [beh, hk, h, h5, ofH, ← e1, h6, bi]
    · rw [bi_0] at h
      exact ⟨by simp [beh, hk, h], hZ⟩
  · rw [bi_0] at h
    exact ⟨by simp [beh, h], hZ⟩)
theorem ok_X8_done : KX8_done l D cI cZ (fun th ha ye p s w c g t1 t2 t3 t4 t5 t6 y1 y2 y3 y4 y5 y6 => okC c ∧ okS th ha ye p s w ∧ Z3 t4 t5 t6) (fun th ha ye p s w c g t1 t2 t3 t4 t5 t6 y1 y2 y3 y4 y5 y6 r n1 n2 n3 n4 n5 n6 c2 u1 u2 u3 u4 u5 u6 z1 z2 z3 z4 z5 z6 => r = doR (th, ha, ye, p, s, w) c.toNatClampNeg g ∧ (n1, n2, n3, n4, n5, n6) = doS (th, ha, ye, p, s, w) c.toNatClampNeg g ∧ c2 = (if rf (th, ha, ye, p, s, w) c.toNatClampNeg g = 0 then 0 else c) ∧ Z3 u4 u5 u6) := walkX8_done ok_X8_tryText ok_X1_copyFrom ok_X3_clear (by
  rintro th ha ye p s w c g t1 t2 t3 t4 t5 t6 y1 y2 y3 y4 y5 y6 hP
  have hc60 := (okC_cl hP.1).2
  refine ⟨hP, ?_⟩
  rintro r u1 u2 u3 u4 u5 u6 z1 z2 z3 z4 z5 z6 ⟨rfl, h1, h2⟩
  refine ⟨fun h => ⟨trivial, ?_⟩, fun h => ?_⟩
  · obtain ⟨e1, e2, e3, e4, e5⟩ := h2 (rf_0.mp h).1
    rintro x1 x2 x3 x4 x5 x6 ⟨rfl, rfl, rfl, rfl, rfl, rfl⟩
    refine ⟨trivial, ?_⟩
    rintro x rfl
    have hS := hP.2.1
    rw [cp_eq hS.2.2.2.2.2.2.1 h1.1, cp_eq hS.2.2.2.2.2.2.2.1 h1.2.1, cp_eq hS.2.2.2.2.2.2.2.2 h1.2.2]
    refine ⟨?_, ?_, by rw [if_pos h], h1⟩
    · have hN := (text_ok (rf_0.mp h).1 hc60).1
      rw [e5, tB_all hN (rf_0.mp h).2]
      simp [doR, h]
    · rw [e1]
      simp [doS, h]
  · exact ⟨by simp [doR, h], by simp [doS, h], by rw [if_neg h], h1⟩)
end OK10
