/-! The class's texts tried. -/
theorem wi_nI {x lo hi : Int32} {L H : Nat} (h : wi x lo hi = true) (h1 : lo = nI L) (h2 : hi = nI H) (hL : L < 2 ^ 31) (hH : H < 2 ^ 31) : ∃ m, L ≤ m ∧ m ≤ H ∧ x = nI m := by
  subst h1
  subst h2
  unfold wi at h
  have h := of_decide_eq_true h
  rw [i32_nlt, i32_nlt, Int32.le_iff_toInt_le, Int32.le_iff_toInt_le, nI_toInt hL, nI_toInt hH] at h
  have h0 : ¬ x < 0 := by
    rw [Int32.lt_iff_toInt_lt]
    have : (0 : Int32).toInt = 0 := by decide
    omega
  obtain ⟨m, hm, rfl⟩ := nI_of h0
  rw [nI_toInt hm] at h
  exact ⟨m, by omega, by omega, rfl⟩
theorem isL_H {x : Int32} (h : isL x = true) : isH (x - (65 : Int32)) = true := by
  obtain ⟨m, h1, h2, rfl⟩ := wi_nI (L := 65) (H := 74) h rfl rfl (by decide) (by decide)
  have : nI m - (65 : Int32) = nI (m - 65) := pk_sub h1
  rw [this]
  exact isH_of (by omega)
theorem fa_ok {cn : Nat} {g : Nat → Int32} {a : Nat} (h : fa cn g a = -6) (ha : a < 500) : okA (kd cn g a) (wz cn g a) (nu cn g a) ∧ okV (kd cn g a) (nu cn g a) := by
  by_cases h46 : sg cn g a = 46
  · have hkd : kd cn g a = 6 := by
      unfold kd
      rw [if_pos h46]
    rw [hkd]
    exact ⟨⟨by unfold isK; decide, Or.inl rfl⟩, fun q => absurd q (by decide), fun q => absurd q (by decide)⟩
  · unfold fa at h
    rw [if_neg h46] at h
    by_cases hL : isL (sg cn g a) = false
    · rw [if_pos hL] at h
      exact absurd h (nI_n6 (by omega))
    · rw [if_neg hL] at h
      have hL : isL (sg cn g a) = true := by
        cases e : isL (sg cn g a)
        · exact absurd e hL
        · rfl
      have hk6 : ¬ kd cn g a = 6 := by
        unfold kd
        rw [if_neg h46]
        repeat' split
        all_goals decide
      have hwz : isH (wz cn g a) = true := by
        unfold wz
        rw [if_neg hk6]
        exact isL_H hL
      by_cases c36 : sg cn g (a + 1) = 36
      · have hkd : kd cn g a = 5 := by simp [kd, h46, c36]
        rw [hkd]
        exact ⟨⟨by unfold isK; decide, Or.inr ⟨hwz, fun q => absurd q (by decide)⟩⟩, fun q => absurd q (by decide), fun q => absurd q (by decide)⟩
      by_cases c43 : sg cn g (a + 1) = 43
      · have hkd : kd cn g a = 1 := by simp [kd, h46, c43]
        rw [hkd]
        exact ⟨⟨by unfold isK; decide, Or.inr ⟨hwz, fun q => absurd q (by decide)⟩⟩, fun q => absurd q (by decide), fun q => absurd q (by decide)⟩
      by_cases c42 : sg cn g (a + 1) = 42
      · have hkd : kd cn g a = 2 := by simp [kd, h46, c42]
        have hnu : nu cn g a = sg cn g (a + 2) - (48 : Int32) := by simp [nu, hkd]
        rw [if_neg (by rw [c42]; decide), if_pos c42] at h
        cases hw : wi (sg cn g (a + 2)) 48 55
        · rw [hw, if_neg (by decide)] at h
          exact absurd h (nI_n6 (by omega))
        · obtain ⟨m, h1, h2, e⟩ := wi_nI (L := 48) (H := 55) hw rfl rfl (by decide) (by decide)
          rw [hkd, hnu, e]
          have : nI m - (48 : Int32) = nI (m - 48) := pk_sub h1
          rw [this]
          exact ⟨⟨by unfold isK; decide, Or.inr ⟨hwz, fun q => absurd q (by decide)⟩⟩, fun q => absurd q (by decide), fun _ => ⟨m - 48, by omega, rfl⟩⟩
      by_cases c38 : sg cn g (a + 1) = 38 ∨ sg cn g (a + 1) = 61
      · have hkd : kd cn g a = 3 ∨ kd cn g a = 4 := by
          rcases c38 with q | q
          · exact Or.inl (by simp [kd, h46, q])
          · exact Or.inr (by simp [kd, h46, q])
        have hnu : nu cn g a = sg cn g (a + 2) - (65 : Int32) := by rcases hkd with q | q <;> simp [nu, q]
        rw [if_neg (by rcases c38 with q | q <;> (rw [q]; decide)), if_neg (by rcases c38 with q | q <;> (rw [q]; decide)), if_pos c38] at h
        cases hw : isL (sg cn g (a + 2))
        · rw [hw, if_neg (by decide)] at h
          exact absurd h (nI_n6 (by omega))
        · rw [hnu]
          refine ⟨⟨by unfold isK; rcases hkd with q | q <;> (rw [q]; decide), Or.inr ⟨hwz, fun _ => isL_H hw⟩⟩, fun q => ?_, fun q => ?_⟩
          · rcases hkd with z | z <;> (rw [z] at q; exact absurd q (by decide))
          · rcases hkd with z | z <;> (rw [z] at q; exact absurd q (by decide))
      · by_cases c0 : wi (sg cn g (a + 1)) 49 57 = true
        · have ca : ¬ sg cn g (a + 1) = 38 := fun q => c38 (Or.inl q)
          have cb : ¬ sg cn g (a + 1) = 61 := fun q => c38 (Or.inr q)
          have hkd : kd cn g a = 0 := by simp [kd, h46, c36, c43, c42, ca, cb]
          have hnu : nu cn g a = sg cn g (a + 1) - (48 : Int32) := by simp [nu, hkd]
          obtain ⟨m, h1, h2, e⟩ := wi_nI (L := 49) (H := 57) c0 rfl rfl (by decide) (by decide)
          rw [hkd, hnu, e]
          have : nI m - (48 : Int32) = nI (m - 48) := pk_sub (a := m) (b := 48) (by omega)
          rw [this]
          exact ⟨⟨by unfold isK; decide, Or.inr ⟨hwz, fun q => absurd q (by decide)⟩⟩, fun _ => ⟨m - 48, by omega, rfl⟩, fun q => absurd q (by decide)⟩
        · rw [if_neg (by simp [c0, c43, c36]), if_neg c42, if_neg c38] at h
          exact absurd h (nI_n6 (by omega))
abbrev tA (cn : Nat) (g : Nat → Int32) : Nat → Int32 := fun t => kd cn g (ps cn g t)
abbrev tW (cn : Nat) (g : Nat → Int32) : Nat → Int32 := fun t => wz cn g (ps cn g t)
abbrev tM (cn : Nat) (g : Nat → Int32) : Nat → Int32 := fun t => nu cn g (ps cn g t)
theorem ps_le (cn : Nat) (g : Nat → Int32) : ∀ j, ps cn g j ≤ 3 * j := by
  intro j
  induction j with
  | zero => exact Nat.le_refl 0
  | succ k ih =>
    have := (ln_pos cn g (ps cn g k)).2
    show ps cn g k + ln cn g (ps cn g k) ≤ 3 * (k + 1)
    omega
theorem text_ok {cn : Nat} {g : Nat → Int32} (hf : flt cn g 60 0 = -6) (hc : cn ≤ 60) : nA cn g ≤ 60 ∧ (∀ t, t < nA cn g → ps cn g t < cn ∧ fa cn g (ps cn g t) = -6) ∧ cn ≤ ps cn g (nA cn g) := by
  have H : ∀ j, j ≤ 60 → (∀ t, t < j → ps cn g t < cn ∧ fa cn g (ps cn g t) = -6) ∨ (nA cn g ≤ j ∧ (∀ t, t < nA cn g → ps cn g t < cn ∧ fa cn g (ps cn g t) = -6) ∧ cn ≤ ps cn g (nA cn g)) := by
    intro j
    induction j with
    | zero => exact fun _ => Or.inl (fun t ht => absurd ht (by omega))
    | succ j ih =>
      intro hj
      rcases ih (by omega) with h | ⟨h1, h2⟩
      · by_cases q : cn ≤ ps cn g j
        · have e := nac_at cn g j (by omega) (fun t ht => (h t ht).1)
          rw [nac_end _ _ _ q, Nat.add_zero] at e
          rw [e]
          exact Or.inr ⟨by omega, h, q⟩
        · refine Or.inl (fun t ht => ?_)
          by_cases e : t = j
          · subst e
            refine ⟨by omega, ?_⟩
            have e2 := flt_at cn g t (by omega) h
            by_cases z : fa cn g (ps cn g t) = -6
            · exact z
            · rw [flt_bad cn g (by omega) (by omega) z] at e2
              rw [← e2]
              exact hf
          · exact h t (by omega)
      · exact Or.inr ⟨by omega, h2⟩
  rcases H 60 (Nat.le_refl 60) with h | h
  · have e := nac_at cn g 60 (Nat.le_refl 60) (fun t ht => (h t ht).1)
    have e2 : nac cn g (60 - 60) (ps cn g 60) = 0 := rfl
    rw [e2, Nat.add_zero] at e
    rw [e]
    have := ps_ge cn g 60
    exact ⟨Nat.le_refl 60, h, by omega⟩
  · exact h
theorem text_act {cn : Nat} {g : Nat → Int32} (hf : flt cn g 60 0 = -6) (hc : cn ≤ 60) : okAct (tA cn g) (tW cn g) (tM cn g) (nA cn g) := by
  obtain ⟨h1, h2, -⟩ := text_ok hf hc
  intro t ht
  have := ps_le cn g t
  exact fa_ok (h2 t ht).2 (by omega)
/-- whose act it is says nothing of a year -/
theorem why_6 (th ha ye : Int32) (w : Nat → Int32) (k k2 v : Int32) : why th ha ye w 6 k v = why th ha ye w 6 k2 v := by
  unfold why
  rw [if_pos rfl, if_pos rfl]
theorem wz_why (cn : Nat) (g : Nat → Int32) (a : Nat) (th ha ye v : Int32) (w : Nat → Int32) : why th ha ye w (kd cn g a) (wh cn g a) v = why th ha ye w (kd cn g a) (wz cn g a) v := by
  by_cases h : kd cn g a = 6
  · rw [h]
    exact why_6 ..
  · unfold wz
    rw [if_neg h]
theorem wz_stp (cn : Nat) (g : Nat → Int32) (a : Nat) (σ : DSt) (v : Int32) : stp σ (kd cn g a) (wh cn g a) v = stp σ (kd cn g a) (wz cn g a) v := by
  by_cases h : kd cn g a = 6
  · rw [h]
    simp [stp, acT, acH, acY, acP, acS, acW]
  · unfold wz
    rw [if_neg h]
theorem knT_thr {th k v : Int32} {w : Nat → Int32} (ht : rng 1024 th) (hk : thr th k = true) : thr (knT th w k v) k = decide (0 < w k.toNatClampNeg - (3 : Int32) * v) := by
  unfold knT
  by_cases q : 0 < w k.toNatClampNeg - (3 : Int32) * v
  · rw [if_pos q, hk, decide_eq_true q]
  · rw [if_neg q, decide_eq_false q]
    unfold thr at hk ⊢
    rw [Bool.and_eq_true] at hk
    obtain ⟨n, hn, rfl⟩ := ht
    obtain ⟨i, hi, rfl⟩ := isH_nI hk.1
    rw [hs_awy n hn i hi i hi]
    simp
section OK9
variable {l : Launch} {D : va_G} {cI cZ : ClassId}
theorem ok_X7_noteSwept : KX7_noteSwept l D cI cZ (fun _ _ _ _ _ => True) (fun k a c sa sw c2 sa2 sw2 => c2 = c + (1 : Int32) ∧ sa2 = (if c = 0 then a else sa) ∧ sw2 = (if c = 0 then k else sw)) := walkX7_noteSwept (by
  rintro k a c sa sw -
  refine ⟨fun h => ?_, fun h => ?_⟩
  · rintro x rfl
    exact ⟨rfl, by rw [if_neg h], by rw [if_neg h]⟩
  · rintro x rfl
    exact ⟨rfl, by rw [if_pos h], by rw [if_pos h]⟩)
theorem ok_X7_run : KX7_run l D cI cZ (fun _ _ _ _ _ _ c g th ha ye p s w => okC c ∧ okS th ha ye p s w ∧ flt c.toNatClampNeg g 60 0 = -6) (fun _ _ _ _ _ _ c g th ha ye p s w ac2 b2 y2 m2 sa2 sw2 th2 ha2 ye2 p2 s2 w2 => (th2, ha2, ye2, p2, s2, w2) = rEnd (th, ha, ye, p, s, w) (tA c.toNatClampNeg g) (tW c.toNatClampNeg g) (tM c.toNatClampNeg g) (nA c.toNatClampNeg g) ∧ (m2, sa2, sw2) = rSw (th, ha, ye, p, s, w) (tA c.toNatClampNeg g) (tW c.toNatClampNeg g) (tM c.toNatClampNeg g) (nA c.toNatClampNeg g) ∧ b2 = rBad (th, ha, ye, p, s, w) (tA c.toNatClampNeg g) (tW c.toNatClampNeg g) (tM c.toNatClampNeg g) (nA c.toNatClampNeg g) ∧ y2 = rWhy (th, ha, ye, p, s, w) (tA c.toNatClampNeg g) (tW c.toNatClampNeg g) (tM c.toNatClampNeg g) (nA c.toNatClampNeg g) ∧ ac2 = nI (rJ (th, ha, ye, p, s, w) (tA c.toNatClampNeg g) (tW c.toNatClampNeg g) (tM c.toNatClampNeg g) (nA c.toNatClampNeg g))) := walkX7_run (IX7_run_39 := fun _ _ _ _ _ _ c g th ha ye p s w n at_ i ac2 b2 y2 m2 sa2 sw2 th2 ha2 ye2 p2 s2 w2 => ∃ k, k + n = nA c.toNatClampNeg g ∧ i = nI k ∧ at_ = nI (ps c.toNatClampNeg g k) ∧ ac2 = nI k ∧ (th2, ha2, ye2, p2, s2, w2) = runD (th, ha, ye, p, s, w) (tA c.toNatClampNeg g) (tW c.toNatClampNeg g) (tM c.toNatClampNeg g) k ∧ (m2, sa2, sw2) = swD (th, ha, ye, p, s, w) (tA c.toNatClampNeg g) (tW c.toNatClampNeg g) (tM c.toNatClampNeg g) k ∧ goJ (th, ha, ye, p, s, w) (tA c.toNatClampNeg g) (tW c.toNatClampNeg g) (tM c.toNatClampNeg g) (nA c.toNatClampNeg g - k) k = rJ (th, ha, ye, p, s, w) (tA c.toNatClampNeg g) (tW c.toNatClampNeg g) (tM c.toNatClampNeg g) (nA c.toNatClampNeg g) ∧ okσ (runD (th, ha, ye, p, s, w) (tA c.toNatClampNeg g) (tW c.toNatClampNeg g) (tM c.toNatClampNeg g) k)) ok_X3_kindAt ok_X3_whoAt ok_X3_numberAt ok_X1_attempt ok_X3_lengthAt ok_X1_isThere ok_X7_noteSwept (by
  rintro a0 b0 y0 m0 sa0 sw0 c g th ha ye p s w ⟨hc, hS, hf⟩
  obtain ⟨ec, hc60⟩ := okC_cl hc
  generalize hcn : c.toNatClampNeg = cn at *
  have hA := text_act hf hc60
  obtain ⟨hN, hfa, hend⟩ := text_ok hf hc60
  generalize hσ : (th, ha, ye, p, s, w) = σ at *
  have hσ2 : okσ σ := by rw [← hσ]; exact hS
  generalize hNN : nA cn g = N at *
  refine ⟨⟨N, 0, by omega, rfl, rfl, rfl, rfl, rfl, rfl, hσ2⟩, ?_⟩
  rintro n at_ i ac2 th2 ha2 ye2 p2 s2 w2 m2 sa2 sw2 ⟨k, hk, rfl, rfl, rfl, h4, h5, h6, h7⟩
  have fin : k = N → (th2, ha2, ye2, p2, s2, w2) = rEnd σ (tA cn g) (tW cn g) (tM cn g) N ∧ (m2, sa2, sw2) = rSw σ (tA cn g) (tW cn g) (tM cn g) N ∧ (-6 : Int32) = rBad σ (tA cn g) (tW cn g) (tM cn g) N ∧ (-6 : Int32) = rWhy σ (tA cn g) (tW cn g) (tM cn g) N ∧ nI k = nI (rJ σ (tA cn g) (tW cn g) (tM cn g) N) := by
    rintro rfl
    have e : rJ σ (tA cn g) (tW cn g) (tM cn g) k = k := by
      rw [← h6, Nat.sub_self]
      rfl
    exact ⟨by unfold rEnd; rw [e]; exact h4, by unfold rSw; rw [e]; exact h5, by unfold rBad; rw [if_pos e], by unfold rWhy; rw [if_pos e], by rw [e]⟩
  have hpk := ps_le cn g k
  refine ⟨fun h => ?_, fun h => ⟨fun h2 => ?_, fun h2 => ?_⟩⟩
  · have := (ctr_le (N := 60) (c := (60 : Int32)) rfl (by decide) (by omega)).mp h
    exact fin (by omega)
  · rw [ec] at h2
    have h3 := (nI_leI (by omega) (by omega)).mp h2
    refine fin ?_
    rcases Nat.lt_or_ge k N with q | q
    · have := (hfa k q).1
      omega
    · omega
  · have hlt : k < N := by
      rw [ec] at h2
      have h3 := (not_congr (nI_leI (a := cn) (b := ps cn g k) (by omega) (by omega))).mp h2
      rcases Nat.lt_or_ge k N with q | q
      · exact q
      · have e : k = N := by omega
        rw [e] at h3
        exact absurd hend h3
    have o5 : (∃ a, a < 500 ∧ nI (ps cn g k) = nI a) ∧ okC c := ⟨⟨_, by omega, rfl⟩, hc⟩
    have o6 : okP (nI (ps cn g k)) ∧ okC c := ⟨okP_n (by omega), hc⟩
    have kc : (nI (ps cn g k)).toNatClampNeg = ps cn g k := cl _ (by omega)
    refine ⟨o5, ?_⟩
    rintro r rfl
    refine ⟨o6, ?_⟩
    rintro r rfl
    refine ⟨o5, ?_⟩
    rintro r rfl
    rw [kc]
    obtain ⟨aA, aV⟩ := hA k hlt
    have e7 : okσ (th2, ha2, ye2, p2, s2, w2) := by rw [h4]; exact h7
    refine ⟨⟨kd_isK cn g _, e7.2.2.2.2.1⟩, ?_⟩
    have hwd : why th2 ha2 ye2 w2 (kd cn g (ps cn g k)) (wh cn g (ps cn g k)) (nu cn g (ps cn g k)) = whD σ (tA cn g) (tW cn g) (tM cn g) k := by
      rw [wz_why]
      unfold whD
      rw [← h4]
      rfl
    have er : runD σ (tA cn g) (tW cn g) (tM cn g) (k + 1) = stp (th2, ha2, ye2, p2, s2, w2) (kd cn g (ps cn g k)) (wh cn g (ps cn g k)) (nu cn g (ps cn g k)) := by
      rw [wz_stp]
      show stp _ _ _ _ = _
      rw [h4]
    have ed : dW (runD σ (tA cn g) (tW cn g) (tM cn g) k) = w2 := by rw [← h4]
    rintro r th3 ha3 ye3 p3 s3 w3 ⟨rfl, rfl, rfl, rfl, rfl, rfl, rfl⟩
    refine ⟨fun hw => ?_, fun hw => ?_⟩
    · have hw2 := hw
      rw [hwd] at hw2
      have esw : swD σ (tA cn g) (tW cn g) (tM cn g) (k + 1) = (if swb w2 (kd cn g (ps cn g k)) (wz cn g (ps cn g k)) (nu cn g (ps cn g k)) = true then (m2 + 1, if m2 = 0 then nI k else sa2, if m2 = 0 then wz cn g (ps cn g k) else sw2) else (m2, sa2, sw2)) := by
        show (if swb (dW (runD σ (tA cn g) (tW cn g) (tM cn g) k)) _ _ _ = true then ((swD σ (tA cn g) (tW cn g) (tM cn g) k).1 + 1, if (swD σ (tA cn g) (tW cn g) (tM cn g) k).1 = 0 then nI k else (swD σ (tA cn g) (tW cn g) (tM cn g) k).2.1, if (swD σ (tA cn g) (tW cn g) (tM cn g) k).1 = 0 then wz cn g (ps cn g k) else (swD σ (tA cn g) (tW cn g) (tM cn g) k).2.2) else swD σ (tA cn g) (tW cn g) (tM cn g) k) = _
        rw [ed, ← h5]
      have hst : (sT th2 ha2 ye2 w2 (kd cn g (ps cn g k)) (wh cn g (ps cn g k)) (nu cn g (ps cn g k)), sHr th2 ha2 ye2 s2 w2 (kd cn g (ps cn g k)) (wh cn g (ps cn g k)) (nu cn g (ps cn g k)), sYe th2 ha2 ye2 w2 (kd cn g (ps cn g k)) (wh cn g (ps cn g k)) (nu cn g (ps cn g k)), sPl th2 ha2 ye2 p2 w2 (kd cn g (ps cn g k)) (wh cn g (ps cn g k)) (nu cn g (ps cn g k)), sSt th2 ha2 ye2 s2 w2 (kd cn g (ps cn g k)) (wh cn g (ps cn g k)) (nu cn g (ps cn g k)), sWo th2 ha2 ye2 s2 w2 (kd cn g (ps cn g k)) (wh cn g (ps cn g k)) (nu cn g (ps cn g k))) = runD σ (tA cn g) (tW cn g) (tM cn g) (k + 1) := by
        rw [er]
        unfold sT sHr sYe sPl sSt sWo
        rw [if_pos hw, if_pos hw, if_pos hw, if_pos hw, if_pos hw, if_pos hw]
        rfl
      have hgo : goJ σ (tA cn g) (tW cn g) (tM cn g) (N - (k + 1)) (k + 1) = rJ σ (tA cn g) (tW cn g) (tM cn g) N := by
        rw [← h6, goJ_go (by omega) hw2]
        congr 1
      have hok : okσ (runD σ (tA cn g) (tW cn g) (tM cn g) (k + 1)) := by
        rw [er, wz_stp]
        exact act_ok e7 aA.1 aV (by rw [← wz_why, hwd]; exact hw2)
      have go : ∀ (m3 sa3 sw3 : Int32), (m3, sa3, sw3) = swD σ (tA cn g) (tW cn g) (tM cn g) (k + 1) → ∀ x : Int32, x = nI k + (1 : Int32) → ((∃ a, a < 500 ∧ nI (ps cn g k) = nI a) ∧ okC c) ∧ (∀ r : Int32, r = nI (ln cn g (nI (ps cn g k)).toNatClampNeg) → ∀ x1 : Int32, x1 = nI (ps cn g k) + r → ∀ x2 : Int32, x2 = nI k + (1 : Int32) → ∃ n1, n1 < n ∧ ∃ k1, k1 + n1 = N ∧ x2 = nI k1 ∧ x1 = nI (ps cn g k1) ∧ x = nI k1 ∧ (sT th2 ha2 ye2 w2 (kd cn g (ps cn g k)) (wh cn g (ps cn g k)) (nu cn g (ps cn g k)), sHr th2 ha2 ye2 s2 w2 (kd cn g (ps cn g k)) (wh cn g (ps cn g k)) (nu cn g (ps cn g k)), sYe th2 ha2 ye2 w2 (kd cn g (ps cn g k)) (wh cn g (ps cn g k)) (nu cn g (ps cn g k)), sPl th2 ha2 ye2 p2 w2 (kd cn g (ps cn g k)) (wh cn g (ps cn g k)) (nu cn g (ps cn g k)), sSt th2 ha2 ye2 s2 w2 (kd cn g (ps cn g k)) (wh cn g (ps cn g k)) (nu cn g (ps cn g k)), sWo th2 ha2 ye2 s2 w2 (kd cn g (ps cn g k)) (wh cn g (ps cn g k)) (nu cn g (ps cn g k))) = runD σ (tA cn g) (tW cn g) (tM cn g) k1 ∧ (m3, sa3, sw3) = swD σ (tA cn g) (tW cn g) (tM cn g) k1 ∧ goJ σ (tA cn g) (tW cn g) (tM cn g) (N - k1) k1 = rJ σ (tA cn g) (tW cn g) (tM cn g) N ∧ okσ (runD σ (tA cn g) (tW cn g) (tM cn g) k1)) := by
        rintro m3 sa3 sw3 z x rfl
        refine ⟨o5, ?_⟩
        rw [kc]
        rintro r rfl x1 rfl x2 rfl
        exact ⟨n - 1, by omega, k + 1, by omega, nI_1 k, by rw [nI_add]; rfl, nI_1 k, hst, z, hgo, hok⟩
      rw [kc] at go
      refine ⟨fun h0 => ?_, fun h0 => ⟨trivial, ?_⟩⟩
      · refine go m2 sa2 sw2 ?_
        have hsw : ¬ swb w2 (kd cn g (ps cn g k)) (wz cn g (ps cn g k)) (nu cn g (ps cn g k)) = true := by
          unfold swb
          intro q
          exact h0 (of_decide_eq_true q).1
        rw [esw, if_neg hsw]
      · have hT := (why0_ok (kd_isK cn g _) hw).2.1
        rw [h0] at hT hw hwd
        have hthr : thr th2 (wh cn g (ps cn g k)) = true := by
          rcases hT with q | q
          · exact absurd q (by decide)
          · exact q
        have ewz : wz cn g (ps cn g k) = wh cn g (ps cn g k) := by
          unfold wz
          rw [if_neg (by rw [h0]; decide)]
        have esT : sT th2 ha2 ye2 w2 (kd cn g (ps cn g k)) (wh cn g (ps cn g k)) (nu cn g (ps cn g k)) = knT th2 w2 (wh cn g (ps cn g k)) (nu cn g (ps cn g k)) := by
          unfold sT
          rw [h0, if_pos hw]
          simp [acT]
        have ekn := knT_thr (w := w2) (v := nu cn g (ps cn g k)) e7.1 hthr
        rintro r rfl
        rw [esT, ekn]
        refine ⟨fun h8 => ?_, fun h8 => ⟨trivial, ?_⟩⟩
        · rw [bi_n0, decide_eq_true_iff] at h8
          rw [← esT]
          refine go m2 sa2 sw2 ?_
          have hsw : ¬ swb w2 (kd cn g (ps cn g k)) (wz cn g (ps cn g k)) (nu cn g (ps cn g k)) = true := by
            unfold swb
            intro q
            rw [ewz] at q
            exact (of_decide_eq_true q).2 h8
          rw [esw, if_neg hsw]
        · rw [bi_0, decide_eq_false_iff_not] at h8
          rintro m3 sa3 sw3 ⟨rfl, rfl, rfl⟩
          rw [← esT]
          refine go _ _ _ ?_
          have hsw : swb w2 (kd cn g (ps cn g k)) (wz cn g (ps cn g k)) (nu cn g (ps cn g k)) = true := by
            unfold swb
            rw [ewz]
            exact decide_eq_true ⟨h0, h8⟩
          rw [esw, if_pos hsw, ewz]
    · have hw2 := hw
      rw [hwd] at hw2
      have e : rJ σ (tA cn g) (tW cn g) (tM cn g) N = k := by rw [← h6, goJ_stop hw2]
      have hst : (sT th2 ha2 ye2 w2 (kd cn g (ps cn g k)) (wh cn g (ps cn g k)) (nu cn g (ps cn g k)), sHr th2 ha2 ye2 s2 w2 (kd cn g (ps cn g k)) (wh cn g (ps cn g k)) (nu cn g (ps cn g k)), sYe th2 ha2 ye2 w2 (kd cn g (ps cn g k)) (wh cn g (ps cn g k)) (nu cn g (ps cn g k)), sPl th2 ha2 ye2 p2 w2 (kd cn g (ps cn g k)) (wh cn g (ps cn g k)) (nu cn g (ps cn g k)), sSt th2 ha2 ye2 s2 w2 (kd cn g (ps cn g k)) (wh cn g (ps cn g k)) (nu cn g (ps cn g k)), sWo th2 ha2 ye2 s2 w2 (kd cn g (ps cn g k)) (wh cn g (ps cn g k)) (nu cn g (ps cn g k))) = runD σ (tA cn g) (tW cn g) (tM cn g) k := by
        rw [← h4]
        unfold sT sHr sYe sPl sSt sWo
        rw [if_neg hw, if_neg hw, if_neg hw, if_neg hw, if_neg hw, if_neg hw]
      exact ⟨by unfold rEnd; rw [e]; exact hst, by unfold rSw; rw [e]; exact h5, by unfold rBad; rw [e, if_neg (by omega)], by unfold rWhy; rw [e, if_neg (by omega)]; exact hwd, by rw [e]⟩)
end OK9
