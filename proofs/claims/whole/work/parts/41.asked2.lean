/-! What is asked of texts: the reference. -/
def hdd (had : Nat → Int32) (σ : DSt) : Prop := (∀ k, k < 10 → had k = dW σ k ∧ had (10 + k) = dS σ k ∧ had (20 + k) = dP σ k) ∧ had 30 = dT σ ∧ had 31 = dH σ ∧ had 32 = dY σ
section OK11
variable {l : Launch} {D : va_G} {cI cZ : ClassId}
theorem ok_X9_keepNow : KX9_keepNow l D cI cZ (fun _ _ _ _ _ _ _ => True) (fun th ha ye _ p s w h2 => hdd h2 (th, ha, ye, p, s, w)) := walkX9_keepNow (IX9_keepNow_2 := fun _ _ _ _ p s w n i h2 => ∃ k, k + n = 10 ∧ i = nI k ∧ ∀ j, j < k → h2 j = w j ∧ h2 (10 + j) = s j ∧ h2 (20 + j) = p j) (by
  rintro th ha ye had p s w -
  refine ⟨⟨10, 0, rfl, rfl, fun j h => absurd h (Nat.not_lt_zero _)⟩, ?_⟩
  rintro n i h2 ⟨k, hk, rfl, hj⟩
  refine ⟨fun h => ?_, fun h => ?_⟩
  · obtain ⟨rfl, -⟩ := c10e hk h
    have e30 : ((30 : Int32)).toNatClampNeg = 30 := by decide
    have e31 : ((31 : Int32)).toNatClampNeg = 31 := by decide
    have e32 : ((32 : Int32)).toNatClampNeg = 32 := by decide
    rw [e30, e31, e32]
    refine ⟨fun j h10 => ?_, ?_, ?_, ?_⟩
    · obtain ⟨x1, x2, x3⟩ := hj j h10
      rw [upd_n (by omega), upd_n (by omega), upd_n (by omega), upd_n (by omega), upd_n (by omega), upd_n (by omega), upd_n (by omega), upd_n (by omega), upd_n (by omega)]
      exact ⟨x1, x2, x3⟩
    · rw [upd_n (by omega), upd_n (by omega), upd_s]
    · rw [upd_n (by omega), upd_s]
    · rw [upd_s]
  · obtain ⟨h10, hn⟩ := c10 hk h
    have hv := in10 h10
    have e1 : (10 : Int32) + nI k = nI (10 + k) := nI_add 10 k
    have e2 : (20 : Int32) + nI k = nI (20 + k) := nI_add 20 k
    rw [e1, e2, cl10 h10, cl (10 + k) (by omega), cl (20 + k) (by omega)]
    refine ⟨hv, ?_⟩
    rintro x rfl
    refine ⟨vp_in_nI (by omega) (by decide), hv, ?_⟩
    rintro x rfl
    refine ⟨vp_in_nI (by omega) (by decide), hv, ?_⟩
    rintro x rfl
    refine ⟨vp_in_nI (by omega) (by decide), ?_⟩
    rintro x rfl
    refine ⟨n - 1, by omega, k + 1, by omega, nI_1 k, fun j hj2 => ?_⟩
    by_cases e : j = k
    · subst e
      rw [upd_n (by omega), upd_n (by omega), upd_s, upd_n (by omega), upd_s, upd_s]
      exact ⟨rfl, rfl, rfl⟩
    · obtain ⟨x1, x2, x3⟩ := hj j (by omega)
      rw [upd_n (by omega), upd_n (by omega), upd_n (by omega), upd_n (by omega), upd_n (by omega), upd_n (by omega), upd_n (by omega), upd_n (by omega), upd_n (by omega)]
      exact ⟨x1, x2, x3⟩)
theorem ok_X9_back : KX9_back l D cI cZ (fun _ _ _ _ _ _ _ _ => True) (fun v _ _ _ had p s w r th2 ha2 ye2 p2 s2 w2 => r = v ∧ ∀ σ : DSt, hdd had σ → Z3 (dP σ) (dS σ) (dW σ) → Z3 p s w → (th2, ha2, ye2, p2, s2, w2) = σ) := walkX9_back (IX9_back_2 := fun v _ _ _ had p s w n q i _ _ _ p2 s2 w2 => q = v ∧ ∃ k, k + n = 10 ∧ i = nI k ∧ p2 = cpN k p (fun j => had (20 + j)) ∧ s2 = cpN k s (fun j => had (10 + j)) ∧ w2 = cpN k w had) (by
  rintro v th ha ye had p s w -
  refine ⟨⟨10, rfl, 0, rfl, rfl, (cp_0 _ _).symm, (cp_0 _ _).symm, (cp_0 _ _).symm⟩, ?_⟩
  rintro n i p2 s2 w2 ⟨-, k, hk, rfl, rfl, rfl, rfl⟩
  refine ⟨fun h => ?_, fun h => ?_⟩
  · obtain ⟨rfl, -⟩ := c10e hk h
    have e30 : ((30 : Int32)).toNatClampNeg = 30 := by decide
    have e31 : ((31 : Int32)).toNatClampNeg = 31 := by decide
    have e32 : ((32 : Int32)).toNatClampNeg = 32 := by decide
    rw [e30, e31, e32]
    rintro x rfl y rfl z rfl
    refine ⟨rfl, ?_⟩
    rintro ⟨a1, a2, a3, a4, a5, a6⟩ ⟨h1, h2, h3, h4⟩ hz hz2
    rw [h2, h3, h4, cp_eq2 (h := a4) (fun i hi => (h1 i hi).2.2), cp_eq2 (h := a5) (fun i hi => (h1 i hi).2.1), cp_eq2 (h := a6) (fun i hi => (h1 i hi).1), cp_eq hz2.1 hz.1, cp_eq hz2.2.1 hz.2.1, cp_eq hz2.2.2 hz.2.2]
  · obtain ⟨h10, hn⟩ := c10 hk h
    have hv := in10 h10
    have e1 : (10 : Int32) + nI k = nI (10 + k) := nI_add 10 k
    have e2 : (20 : Int32) + nI k = nI (20 + k) := nI_add 20 k
    rw [e1, e2, cl10 h10, cl (10 + k) (by omega), cl (20 + k) (by omega)]
    refine ⟨vp_in_nI (by omega) (by decide), ?_⟩
    rintro x rfl
    refine ⟨hv, vp_in_nI (by omega) (by decide), ?_⟩
    rintro x rfl
    refine ⟨hv, vp_in_nI (by omega) (by decide), ?_⟩
    rintro x rfl
    refine ⟨hv, ?_⟩
    rintro x rfl
    exact ⟨n - 1, by omega, rfl, k + 1, by omega, nI_1 k, cp_s k p (fun j => had (20 + j)), cp_s k s (fun j => had (10 + j)), cp_s k w had⟩)
def rfM (σ : DSt) (cn : Nat) (g : Nat → Int32) : Int32 := if tF cn g = -6 then (if tB σ cn g = -6 then -6 else -3) else -5
theorem rfM_6 {σ : DSt} {cn : Nat} {g : Nat → Int32} : rfM σ cn g = -6 ↔ rf σ cn g = 0 := by
  unfold rf rfM
  by_cases h : tF cn g = -6 <;> by_cases h2 : tB σ cn g = -6 <;> simp [h, h2]
theorem rfM_n {σ : DSt} {cn : Nat} {g : Nat → Int32} (h0 : ¬ rf σ cn g = 0) : rfM σ cn g = rf σ cn g := by
  unfold rf rfM at *
  by_cases h : tF cn g = -6 <;> by_cases h2 : tB σ cn g = -6 <;> simp_all
theorem ok_X9_refusal : KX9_refusal l D cI cZ (fun th ha ye pm ac_ sm bA bW sA sW act had mu g p s wh_ w => okC pm ∧ okS th ha ye p s w) (fun th ha ye pm ac_ sm bA bW sA sW act had mu g p s wh_ w r u1 u2 u3 v1 v2 v3 v4 v5 v6 a1 a2 a3 u4 u5 a4 u6 => r = rfM (th, ha, ye, p, s, w) pm.toNatClampNeg g ∧ hdd a2 (th, ha, ye, p, s, w) ∧ Z3 u4 u5 u6 ∧ (tF pm.toNatClampNeg g = -6 → okσ (u1, u2, u3, u4, u5, u6) ∧ (u1, u2, u3, u4, u5, u6) = tE (th, ha, ye, p, s, w) pm.toNatClampNeg g ∧ (v2, v5, v6) = tS (th, ha, ye, p, s, w) pm.toNatClampNeg g ∧ v3 = tB (th, ha, ye, p, s, w) pm.toNatClampNeg g ∧ v4 = tY (th, ha, ye, p, s, w) pm.toNatClampNeg g ∧ v1 = nI (nA pm.toNatClampNeg g))) := walkX9_refusal ok_X9_keepNow ok_X9_fault ok_X9_goYears (by
  rintro th ha ye pm ac_ sm bA bW sA sW act had mu g p s wh_ w ⟨hc, hS⟩
  obtain ⟨ec, hc60⟩ := okC_cl hc
  refine ⟨trivial, ?_⟩
  rintro h2 hh
  refine ⟨hc, ?_⟩
  rintro r x1 f1 f2 f3 ⟨rfl, hf⟩
  have hneg := tF_neg pm.toNatClampNeg g
  refine ⟨fun h => ?_, fun h => ?_⟩
  · have h6 : tF pm.toNatClampNeg g = -6 := hneg.mp h
    obtain ⟨rfl, hN, hr⟩ := hf h6
    have hA := text_act h6 hc60
    have hcong : ∀ t, t < nA pm.toNatClampNeg g → f1 t = tA pm.toNatClampNeg g t ∧ f3 t = tW pm.toNatClampNeg g t ∧ f2 t = tM pm.toNatClampNeg g t := fun t ht => ⟨(hr t ht).2.2.1, (hr t ht).2.2.2.2, (hr t ht).2.2.2.1⟩
    obtain ⟨q1, q2, q3, q4, q5⟩ := r_congr (σ := (th, ha, ye, p, s, w)) hcong
    have hAct : okAct f1 f3 f2 (nA pm.toNatClampNeg g) := by
      intro t ht
      obtain ⟨z1, z2, z3⟩ := hcong t ht
      rw [z1, z2, z3]
      exact hA t ht
    refine ⟨⟨hS, _, hN, rfl, hAct⟩, ?_⟩
    rw [cl (nA pm.toNatClampNeg g) (by omega)]
    rintro y1 y2 y3 y4 y5 y6 y7 y8 y9 y10 y11 ⟨e1, e2, e3, e4⟩
    rw [q4] at e1
    rw [q5] at e2
    rw [q2] at e3
    rw [q3] at e4
    have hok : okσ (tE (th, ha, ye, p, s, w) pm.toNatClampNeg g) := tE_ok hS h6 hc60
    have hok2 : okσ (y1, y2, y3, y9, y10, y11) := by
      have e1' : (y1, y2, y3, y9, y10, y11) = tE (th, ha, ye, p, s, w) pm.toNatClampNeg g := e1
      rw [e1']
      exact hok
    have hb : y5 < 0 ↔ y5 = -6 := by
      rw [e3]
      exact rBad_neg hN
    refine ⟨fun h7 => ?_, fun h7 => ?_⟩
    · have h8 : tB (th, ha, ye, p, s, w) pm.toNatClampNeg g = -6 := by
        have := hb.mp h7
        rw [e3] at this
        exact this
      exact ⟨by unfold rfM; rw [if_pos h6, if_pos h8], hh, Z3_ok hok2, fun _ => ⟨hok2, e1, e2, e3, e4, rfl⟩⟩
    · have h8 : ¬ tB (th, ha, ye, p, s, w) pm.toNatClampNeg g = -6 := by
        intro z
        refine h7 (hb.mpr ?_)
        rw [e3]
        exact z
      exact ⟨by unfold rfM; rw [if_pos h6, if_neg h8], hh, Z3_ok hok2, fun _ => ⟨hok2, e1, e2, e3, e4, rfl⟩⟩
  · have h6 : ¬ tF pm.toNatClampNeg g = -6 := fun q => h (hneg.mpr q)
    exact ⟨by unfold rfM; rw [if_neg h6], hh, ⟨hS.2.2.2.2.2.2.1, hS.2.2.2.2.2.2.2.1, hS.2.2.2.2.2.2.2.2⟩, fun q => absurd q h6⟩)
theorem ok_X9_judge : KX9_judge l D cI cZ (fun k th ha ye pm ac_ sm bA bW sA sW act had mu g p s wh_ w => okC pm ∧ okS th ha ye p s w) (fun k th ha ye pm ac_ sm bA bW sA sW act had mu g p s wh_ w r u1 u2 u3 v1 v2 v3 v4 v5 v6 a1 a2 a3 u4 u5 a4 u6 => r = jud (th, ha, ye, p, s, w) pm.toNatClampNeg g k ∧ (u1, u2, u3, u4, u5, u6) = (th, ha, ye, p, s, w)) := walkX9_judge ok_X9_in ok_X9_refusal ok_X9_back (by
  rintro k th ha ye pm ac_ sm bA bW sA sW act had mu g p s wh_ w hP
  have hz : Z3 p s w := Z3_ok (σ := (th, ha, ye, p, s, w)) hP.2
  refine ⟨trivial, fun r hr => ?_⟩
  rw [hr k 0 2 rfl (by decide) (by decide)]
  refine ⟨fun h => ⟨hP, ?_⟩, fun h => ?_⟩
  · rw [bi_n0] at h
    rintro r u1 u2 u3 v1 v2 v3 v4 v5 v6 a1 a2 a3 u4 u5 a4 u6 ⟨rfl, hh, hz2, h2⟩
    refine ⟨trivial, ?_⟩
    rintro r b1 b2 b3 b4 b5 b6 ⟨rfl, hb⟩
    have hB := hb _ hh hz hz2
    have r5 : rfM (th, ha, ye, p, s, w) pm.toNatClampNeg g = -5 ↔ ¬ tF pm.toNatClampNeg g = -6 := by
      unfold rfM
      by_cases z : tF pm.toNatClampNeg g = -6 <;> by_cases z2 : tB (th, ha, ye, p, s, w) pm.toNatClampNeg g = -6 <;> simp [z, z2]
    have r3 : rfM (th, ha, ye, p, s, w) pm.toNatClampNeg g = -3 ↔ tF pm.toNatClampNeg g = -6 ∧ ¬ tB (th, ha, ye, p, s, w) pm.toNatClampNeg g = -6 := by
      unfold rfM
      by_cases z : tF pm.toNatClampNeg g = -6 <;> by_cases z2 : tB (th, ha, ye, p, s, w) pm.toNatClampNeg g = -6 <;> simp [z, z2]
    refine ⟨fun h5 => ?_, fun h5 => ?_⟩
    · have h6 := r5.mp h5
      refine ⟨?_, hB⟩
      rw [h5]
      simp [jud, h, h6]
    · have hf : tF pm.toNatClampNeg g = -6 := Classical.not_not.mp (fun q => h5 (r5.mpr q))
      obtain ⟨-, -, e2, e3, e4, -⟩ := h2 hf
      have c1 : k = 1 → v4 = jud (th, ha, ye, p, s, w) pm.toNatClampNeg g k := by
        rintro rfl
        simp [jud, h, hf, e4]
      have c0 : k = 0 → v3 = jud (th, ha, ye, p, s, w) pm.toNatClampNeg g k := by
        rintro rfl
        simp [jud, h, hf, e3]
      have c2 : ¬ k = 0 → ¬ k = 1 → ¬ rfM (th, ha, ye, p, s, w) pm.toNatClampNeg g = -3 → v2 = jud (th, ha, ye, p, s, w) pm.toNatClampNeg g k := by
        intro k0 k1 h3
        have hb2 : tB (th, ha, ye, p, s, w) pm.toNatClampNeg g = -6 := Classical.not_not.mp (fun q => h3 (r3.mpr ⟨hf, q⟩))
        simp [jud, h, hf, k0, k1, hb2, ← e2]
      refine ⟨fun q => ⟨fun k0 => ⟨fun k1 => ?_, fun k1 => ⟨c1 k1, hB⟩⟩, fun k0 => ⟨c0 k0, hB⟩⟩, fun q => ⟨fun h3 => ⟨fun k0 => ⟨fun k1 => ⟨c2 k0 k1 h3, hB⟩, fun k1 => ⟨c1 k1, hB⟩⟩, fun k0 => ⟨c0 k0, hB⟩⟩, fun h3 => ?_⟩⟩
      · exfalso
        obtain ⟨m, -, m2, rfl⟩ := wi_nI (L := 0) (H := 2) h rfl rfl (by decide) (by decide)
        have key : ∀ m, m ≤ 2 → nI m ≤ (1 : Int32) → ¬ nI m = 0 → ¬ nI m = 1 → False := by decide
        exact key m m2 q k0 k1
      · have h4 := r3.mp h3
        refine ⟨?_, hB⟩
        have k0 : ¬ k = 0 := by
          rintro rfl
          exact q (by decide)
        have k1 : ¬ k = 1 := by
          rintro rfl
          exact q (by decide)
        rw [h3]
        simp [jud, h, hf, k0, k1, h4.2]
  · rw [bi_0] at h
    exact ⟨by simp [jud, h], rfl⟩)
theorem ok_X9_swept : KX9_swept l D cI cZ (fun k th ha ye pm ac_ sm bA bW sA sW act had mu g p s wh_ w => okC pm ∧ okS th ha ye p s w) (fun k th ha ye pm ac_ sm bA bW sA sW act had mu g p s wh_ w r u1 u2 u3 v1 v2 v3 v4 v5 v6 a1 a2 a3 u4 u5 a4 u6 => r = swR (th, ha, ye, p, s, w) pm.toNatClampNeg g k ∧ (u1, u2, u3, u4, u5, u6) = (th, ha, ye, p, s, w)) := walkX9_swept ok_X9_in ok_X9_refusal ok_X9_back (by
  rintro k th ha ye pm ac_ sm bA bW sA sW act had mu g p s wh_ w hP
  have hz : Z3 p s w := Z3_ok (σ := (th, ha, ye, p, s, w)) hP.2
  refine ⟨trivial, fun r hr => ?_⟩
  rw [hr k 0 1 rfl (by decide) (by decide)]
  refine ⟨fun h => ⟨hP, ?_⟩, fun h => ?_⟩
  · rw [bi_n0] at h
    rintro r u1 u2 u3 v1 v2 v3 v4 v5 v6 a1 a2 a3 u4 u5 a4 u6 ⟨rfl, hh, hz2, h2⟩
    refine ⟨trivial, ?_⟩
    rintro r b1 b2 b3 b4 b5 b6 ⟨rfl, hb⟩
    have hB := hb _ hh hz hz2
    refine ⟨fun h5 => ?_, fun h5 => ?_⟩
    · have h0 := rfM_6.mp h5
      obtain ⟨-, -, e2, -⟩ := h2 (rf_0.mp h0).1
      refine ⟨fun k0 => ⟨?_, hB⟩, fun k0 => ⟨?_, hB⟩⟩
      · simp [swR, h, h0, k0, ← e2]
      · subst k0
        simp [swR, h, h0, ← e2]
    · have h0 : ¬ rf (th, ha, ye, p, s, w) pm.toNatClampNeg g = 0 := fun q => h5 (rfM_6.mpr q)
      refine ⟨?_, hB⟩
      rw [rfM_n h0]
      simp [swR, h, h0]
  · rw [bi_0] at h
    exact ⟨by simp [swR, h], rfl⟩)
theorem ok_X9_see : KX9_see l D cI cZ (fun k th ha ye pm ac_ sm bA bW sA sW act had mu g p s wh_ w => okC pm ∧ okS th ha ye p s w) (fun k th ha ye pm ac_ sm bA bW sA sW act had mu g p s wh_ w r u1 u2 u3 v1 v2 v3 v4 v5 v6 a1 a2 a3 u4 u5 a4 u6 => r = seeR (th, ha, ye, p, s, w) pm.toNatClampNeg g k ∧ (u1, u2, u3, u4, u5, u6) = (th, ha, ye, p, s, w)) := walkX9_see ok_X9_in ok_X9_refusal ok_X9_back ok_X9_allStitches (by
  rintro k th ha ye pm ac_ sm bA bW sA sW act had mu g p s wh_ w hP
  have hz : Z3 p s w := Z3_ok (σ := (th, ha, ye, p, s, w)) hP.2
  refine ⟨trivial, fun r hr => ?_⟩
  rw [hr k 0 3 rfl (by decide) (by decide)]
  refine ⟨fun h => ⟨hP, ?_⟩, fun h => ?_⟩
  · rw [bi_n0] at h
    rintro r u1 u2 u3 v1 v2 v3 v4 v5 v6 a1 a2 a3 u4 u5 a4 u6 ⟨rfl, hh, hz2, h2⟩
    refine ⟨fun h5 => ?_, fun h5 => ⟨trivial, ?_⟩⟩
    · have h0 := rfM_6.mp h5
      obtain ⟨hok, e1, -⟩ := h2 (rf_0.mp h0).1
      refine ⟨fun k0 => ⟨fun k1 => ⟨fun k2 => ⟨trivial, ?_⟩, fun k2 => ⟨hok.2.2.2.2.1, ?_⟩⟩, fun k1 => ⟨trivial, ?_⟩⟩, fun k0 => ⟨trivial, ?_⟩⟩
      · rintro r b1 b2 b3 b4 b5 b6 ⟨rfl, hb⟩
        exact ⟨by simp [seeR, h, h0, k0, k1, k2, ← e1], hb _ hh hz hz2⟩
      · rintro r rfl
        refine ⟨trivial, ?_⟩
        rintro r b1 b2 b3 b4 b5 b6 ⟨rfl, hb⟩
        subst k2
        exact ⟨by simp [seeR, h, h0, ← e1], hb _ hh hz hz2⟩
      · rintro r b1 b2 b3 b4 b5 b6 ⟨rfl, hb⟩
        subst k1
        exact ⟨by simp [seeR, h, h0, ← e1], hb _ hh hz hz2⟩
      · rintro r b1 b2 b3 b4 b5 b6 ⟨rfl, hb⟩
        subst k0
        exact ⟨by simp [seeR, h, h0, ← e1], hb _ hh hz hz2⟩
    · rintro r b1 b2 b3 b4 b5 b6 ⟨rfl, hb⟩
      have h0 : ¬ rf (th, ha, ye, p, s, w) pm.toNatClampNeg g = 0 := fun q => h5 (rfM_6.mpr q)
      refine ⟨?_, hb _ hh hz hz2⟩
      rw [rfM_n h0]
      simp [seeR, h, h0]
  · rw [bi_0] at h
    exact ⟨by simp [seeR, h], rfl⟩)
theorem ok_X9_ofHassock : KX9_ofHassock l D cI cZ (fun k v _ _ _ _ => isH k = true ∧ wi v 0 3 = true) (fun k v th p s w r => r = ofH (th, 0, 0, p, s, w) k v) := walkX9_ofHassock ok_X9_has (by
  rintro k v th p s w ⟨hk, hw⟩
  have hv := isH_in hk
  refine ⟨trivial, ?_⟩
  rintro r rfl
  refine ⟨?_, fun k0 => ⟨?_, fun k1 => ⟨?_, fun k2 => ⟨hv, ?_⟩⟩⟩⟩
  · rintro rfl
    refine ⟨fun h => ?_, fun h => ?_⟩
    · rw [bi_0] at h
      simp [ofH, h, bi]
    · rw [bi_n0] at h
      simp [ofH, h, bi]
  · rintro rfl
    refine ⟨fun h => ?_, fun h => ⟨hv, ?_⟩⟩
    · rw [bi_0] at h
      simp [ofH, h]
    · rw [bi_n0] at h
      simp [ofH, h]
  · rintro rfl
    refine ⟨fun h => ?_, fun h => ⟨hv, ?_⟩⟩
    · rw [bi_0] at h
      simp [ofH, h]
    · rw [bi_n0] at h
      simp [ofH, h]
  · obtain ⟨m, -, m2, rfl⟩ := wi_nI (L := 0) (H := 3) hw rfl rfl (by decide) (by decide)
    have key : ∀ m, m ≤ 3 → ¬ nI m = 0 → ¬ nI m = 1 → ¬ nI m = 2 → nI m = 3 := by decide
    rw [key m m2 k0 k1 k2]
    simp [ofH])
theorem ok_X9_behind : KX9_behind l D cI cZ (fun k v th ha ye pm ac_ sm bA bW sA sW act had mu g p s wh_ w => okC pm ∧ okS th ha ye p s w) (fun k v th ha ye pm ac_ sm bA bW sA sW act had mu g p s wh_ w r u1 u2 u3 v1 v2 v3 v4 v5 v6 a1 a2 a3 u4 u5 a4 u6 => r = beh (th, ha, ye, p, s, w) pm.toNatClampNeg g k v ∧ (u1, u2, u3, u4, u5, u6) = (th, ha, ye, p, s, w)) := walkX9_behind ok_X9_isHassock ok_X9_in ok_X9_refusal ok_X9_ofHassock ok_X9_back (by
  rintro k v th ha ye pm ac_ sm bA bW sA sW act had mu g p s wh_ w hP
  have hz : Z3 p s w := Z3_ok (σ := (th, ha, ye, p, s, w)) hP.2
  refine ⟨trivial, ?_⟩
  rintro r rfl
  refine ⟨fun hk => ⟨trivial, fun r hr => ?_⟩, fun h => ?_⟩
  · rw [bi_n0] at hk
    rw [hr v 0 3 rfl (by decide) (by decide)]
    refine ⟨fun h => ⟨hP, ?_⟩, fun h => ?_⟩
    · rw [bi_n0] at h
      rintro r u1 u2 u3 v1 v2 v3 v4 v5 v6 a1 a2 a3 u4 u5 a4 u6 ⟨rfl, hh, hz2, h2⟩
      refine ⟨fun h5 => ⟨⟨hk, h⟩, ?_⟩, fun h5 => ⟨trivial, ?_⟩⟩
      · have h0 := rfM_6.mp h5
        obtain ⟨hok, e1, -⟩ := h2 (rf_0.mp h0).1
        rintro r rfl
        refine ⟨trivial, ?_⟩
        rintro r b1 b2 b3 b4 b5 b6 ⟨rfl, hb⟩
        refine ⟨?_, hb _ hh hz hz2⟩
        simp [beh, hk, h, h0, ← e1, ofH]
      · rintro r b1 b2 b3 b4 b5 b6 ⟨rfl, hb⟩
        have h0 : ¬ rf (th, ha, ye, p, s, w) pm.toNatClampNeg g = 0 := fun q => h5 (rfM_6.mpr q)
        refine ⟨?_, hb _ hh hz hz2⟩
        rw [rfM_n h0]
        simp [beh, hk, h, h0]
    · rw [bi_0] at h
      exact ⟨by simp [beh, hk, h], rfl⟩
  · rw [bi_0] at h
    exact ⟨by simp [beh, h], rfl⟩)
theorem ok_X9_done : KX9_done l D cI cZ (fun th ha ye pm ac_ sm bA bW sA sW act had mu g p s wh_ w => okC pm ∧ okS th ha ye p s w) (fun th ha ye pm ac_ sm bA bW sA sW act had mu g p s wh_ w r u1 u2 u3 pm2 v1 v2 v3 v4 v5 v6 a1 a2 a3 u4 u5 a4 u6 => r = doR (th, ha, ye, p, s, w) pm.toNatClampNeg g ∧ (u1, u2, u3, u4, u5, u6) = doS (th, ha, ye, p, s, w) pm.toNatClampNeg g ∧ pm2 = (if rf (th, ha, ye, p, s, w) pm.toNatClampNeg g = 0 then 0 else pm)) := walkX9_done ok_X9_refusal ok_X9_back (by
  rintro th ha ye pm ac_ sm bA bW sA sW act had mu g p s wh_ w hP
  have hz : Z3 p s w := Z3_ok (σ := (th, ha, ye, p, s, w)) hP.2
  refine ⟨hP, ?_⟩
  rintro r u1 u2 u3 v1 v2 v3 v4 v5 v6 a1 a2 a3 u4 u5 a4 u6 ⟨rfl, hh, hz2, h2⟩
  refine ⟨fun h5 => ?_, fun h5 => ⟨trivial, ?_⟩⟩
  · have h0 := rfM_6.mp h5
    obtain ⟨hok, e1, e2, e3, e4, e5⟩ := h2 (rf_0.mp h0).1
    exact ⟨by rw [e5]; simp [doR, h0], by rw [e1]; simp [doS, h0], by rw [if_pos h0]⟩
  · rintro r b1 b2 b3 b4 b5 b6 ⟨rfl, hb⟩
    have h0 : ¬ rf (th, ha, ye, p, s, w) pm.toNatClampNeg g = 0 := fun q => h5 (rfM_6.mpr q)
    have hB := hb _ hh hz hz2
    exact ⟨by rw [rfM_n h0]; simp [doR, h0], by rw [hB]; simp [doS, h0], by rw [if_neg h0]⟩)
end OK11
